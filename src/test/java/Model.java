import java.util.ArrayDeque;
import java.util.ArrayList;
import java.util.Arrays;
import java.util.Collections;
import java.util.Comparator;
import java.util.HashMap;
import java.util.List;
import java.util.Map;
import java.util.TreeSet;

/**
 * A second program for the same document, written from its definitions by other means than the class, slow and with
 * the Java library: what the class answers is held against it.
 */
final class Model {
    private static final int BAD = -2;
    private static final int EMPTY = -3;

    private static final Map<Integer, TreeSet<Long>> READ_ONCE = new HashMap<>();

    private int n = 3;
    private Long[] slots = new Long[8];
    private Integer[] samples = new Integer[32];
    private List<int[]> steps = new ArrayList<>();
    private final ArrayDeque<Object[]> history = new ArrayDeque<>();
    private Object[] kept = null;
    private String in = "";
    private String out = "";
    private final int[][] arrays = new int[4][];

    int setVariables(int m) {
        if (m < 1 || m > 5) return BAD;
        int old = n;
        n = m;
        slots = new Long[8];
        samples = new Integer[32];
        steps = new ArrayList<>();
        history.clear();
        return old;
    }

    int variables() {
        return n;
    }

    private int points() {
        return (int) Math.pow(2, n);
    }

    private long limit() {
        return (long) Math.pow(2, points());
    }

    private static boolean slotOk(int s) {
        return 0 <= s && s <= 7;
    }

    private boolean variableOk(int v) {
        return 0 <= v && v <= n - 1;
    }

    private boolean pointOk(int p) {
        return 0 <= p && p <= points() - 1;
    }

    private int put(int slot, Long table) {
        history.addLast(new Object[] {slot, slots[slot]});
        if (history.size() > 10) history.removeFirst();
        slots[slot] = table;
        return table == null ? 0 : Long.bitCount(table);
    }

    int setTable(int slot, long table) {
        if (!slotOk(slot) || table < 0 || table >= limit()) return BAD;
        return put(slot, table);
    }

    private Integer trouble(int slot) {
        if (!slotOk(slot)) return BAD;
        return slots[slot] == null ? EMPTY : null;
    }

    long table(int slot) {
        Integer e = trouble(slot);
        return e != null ? e : slots[slot];
    }

    int clear(int slot) {
        Integer e = trouble(slot);
        if (e != null) return e;
        put(slot, null);
        return usedSlots();
    }

    private boolean at(long f, int p) {
        return (f / (1L << p)) % 2 == 1;
    }

    int value(int slot, int p) {
        if (!slotOk(slot) || !pointOk(p)) return BAD;
        Integer e = trouble(slot);
        return e != null ? e : at(slots[slot], p) ? 1 : 0;
    }

    private int essentialOf(long f) {
        int set = 0;
        for (int p = 0; p < points(); p++)
            for (int v = 0; v < n; v++)
                if ((p & (1 << v)) == 0 && at(f, p) != at(f, p + (1 << v))) set |= 1 << v;
        return set;
    }

    int essential(int slot) {
        Integer e = trouble(slot);
        return e != null ? e : essentialOf(slots[slot]);
    }

    private int violation(long f) {
        for (int p = 0; p < points(); p++)
            for (int v = 0; v < n; v++)
                if ((p & (1 << v)) == 0 && at(f, p) && !at(f, p + (1 << v))) return p;
        return -1;
    }

    int isMonotone(int slot) {
        Integer e = trouble(slot);
        return e != null ? e : violation(slots[slot]) < 0 ? 1 : 0;
    }

    int violatingPoint(int slot) {
        Integer e = trouble(slot);
        return e != null ? e : violation(slots[slot]);
    }

    private List<Integer> primes(long f) {
        List<Integer> list = new ArrayList<>();
        for (int p = 0; p < points(); p++) {
            boolean prime = at(f, p);
            for (int q = 0; q < p; q++) if ((q & p) == q && at(f, q)) prime = false;
            if (prime) list.add(p);
        }
        return list;
    }

    private Integer monotoneTrouble(int slot) {
        Integer e = trouble(slot);
        if (e != null) return e;
        return violation(slots[slot]) >= 0 ? Integer.valueOf(-4) : null;
    }

    int primeImplicants(int slot) {
        Integer e = monotoneTrouble(slot);
        return e != null ? e : primes(slots[slot]).size();
    }

    int primeImplicant(int slot, int i) {
        Integer e = monotoneTrouble(slot);
        if (e != null) return e;
        List<Integer> list = primes(slots[slot]);
        return i < 0 || i >= list.size() ? -1 : list.get(i);
    }

    private boolean[][] graph(long f) {
        boolean[][] g = new boolean[5][5];
        for (int p : primes(f))
            for (int u = 0; u < 5; u++)
                for (int v = 0; v < 5; v++)
                    if (u != v && (p & (1 << u)) != 0 && (p & (1 << v)) != 0) g[u][v] = true;
        return g;
    }

    int neighbors(int slot, int variable) {
        if (!slotOk(slot) || !variableOk(variable)) return BAD;
        Integer e = monotoneTrouble(slot);
        if (e != null) return e;
        boolean[][] g = graph(slots[slot]);
        int set = 0;
        for (int v = 0; v < 5; v++) if (g[variable][v]) set |= 1 << v;
        return set;
    }

    private int[] path(long f) {
        boolean[][] g = graph(f);
        for (int code = 0; code < 625; code++) {
            int[] q = {code / 125, code / 25 % 5, code / 5 % 5, code % 5};
            boolean good = Arrays.stream(q).distinct().count() == 4;
            for (int i = 0; i < 4; i++)
                for (int k = i + 1; k < 4; k++)
                    if (g[q[i]][q[k]] != (k == i + 1)) good = false;
            if (good) return q;
        }
        return null;
    }

    int inducedPath(int slot, int i) {
        if (!slotOk(slot) || i < 0 || i > 3) return BAD;
        Integer e = monotoneTrouble(slot);
        if (e != null) return e;
        int[] q = path(slots[slot]);
        return q == null ? -1 : q[i];
    }

    private boolean clique(boolean[][] g, int set, int vertices) {
        for (int u = 0; u < 5; u++)
            for (int v = 0; v < 5; v++)
                if (u != v && (set & (1 << u)) != 0 && (set & (1 << v)) != 0 && !g[u][v]) return false;
        return (set & vertices) == set;
    }

    private int bad(long f) {
        int vertices = essentialOf(f);
        if (vertices == 0) return -1;
        boolean[][] g = graph(f);
        for (int set = 0; set < 32; set++) {
            boolean maximal = clique(g, set, vertices);
            for (int more = set + 1; more < 32; more++)
                if ((more & set) == set && clique(g, more, vertices)) maximal = false;
            if (maximal && !primes(f).contains(set)) return set;
        }
        return -1;
    }

    int badClique(int slot) {
        Integer e = monotoneTrouble(slot);
        return e != null ? e : bad(slots[slot]);
    }

    /** The read-once functions by their first definition: what formulas with every variable at most once can say. */
    private TreeSet<Long> readOnce() {
        return READ_ONCE.computeIfAbsent(n, m -> {
            List<TreeSet<Long>> bySet = new ArrayList<>();
            for (int set = 0; set < 1 << n; set++) bySet.add(new TreeSet<>());
            for (int set = 1; set < 1 << n; set++) {
                for (int v = 0; v < n; v++) if (set == 1 << v) bySet.get(set).add(single(v));
                for (int part = 1; part < set; part++)
                    if ((part & set) == part)
                        for (long f : bySet.get(part))
                            for (long g : bySet.get(set - part)) {
                                bySet.get(set).add(f & g);
                                bySet.get(set).add(f | g);
                            }
            }
            TreeSet<Long> all = new TreeSet<>(List.of(0L, limit() - 1));
            bySet.forEach(all::addAll);
            return all;
        });
    }

    private long single(int v) {
        long f = 0;
        for (int p = 0; p < points(); p++) if ((p & (1 << v)) != 0) f += 1L << p;
        return f;
    }

    int reason(int slot) {
        Integer e = trouble(slot);
        if (e != null) return e;
        long f = slots[slot];
        if (readOnce().contains(f)) return 0;
        if (violation(f) >= 0) return 1;
        return path(f) != null ? 2 : 3;
    }

    /** Nodes in preorder: type, parent, level. */
    private List<int[]> tree(long f) {
        List<int[]> list = new ArrayList<>();
        if (essentialOf(f) != 0) plant(graph(f), essentialOf(f), -1, 1, list);
        return list;
    }

    private void plant(boolean[][] g, int set, int parent, int level, List<int[]> list) {
        int me = list.size();
        if (Integer.bitCount(set) == 1) {
            list.add(new int[] {Integer.numberOfTrailingZeros(set), parent, level});
            return;
        }
        List<Integer> parts = parts(g, set, true);
        boolean or = parts.size() > 1;
        if (!or) parts = parts(g, set, false);
        list.add(new int[] {or ? 11 : 10, parent, level});
        for (int part : parts) plant(g, part, me, level + 1, list);
    }

    private List<Integer> parts(boolean[][] g, int set, boolean edge) {
        List<Integer> parts = new ArrayList<>();
        for (int v = 0; v < 5; v++) if ((set & (1 << v)) != 0) parts.add(1 << v);
        for (int u = 0; u < 5; u++)
            for (int v = 0; v < 5; v++) {
                if (u == v || (set & (1 << u)) == 0 || (set & (1 << v)) == 0 || g[u][v] != edge) continue;
                int a = holder(parts, u);
                int b = holder(parts, v);
                if (a != b) {
                    parts.remove((Integer) a);
                    parts.remove((Integer) b);
                    parts.add(a | b);
                }
            }
        parts.sort(Comparator.comparingInt(Integer::lowestOneBit));
        return parts;
    }

    private static int holder(List<Integer> parts, int v) {
        for (int part : parts) if ((part & (1 << v)) != 0) return part;
        throw new IllegalStateException();
    }

    private Integer readOnceTrouble(int slot) {
        Integer e = trouble(slot);
        if (e != null) return e;
        return readOnce().contains(slots[slot]) ? null : Integer.valueOf(-5);
    }

    int nodes(int slot) {
        Integer e = readOnceTrouble(slot);
        return e != null ? e : tree(slots[slot]).size();
    }

    private int nodePart(int slot, int node, int part) {
        Integer e = readOnceTrouble(slot);
        if (e != null) return e;
        List<int[]> t = tree(slots[slot]);
        return node < 0 || node >= t.size() ? -1 : t.get(node)[part];
    }

    int nodeType(int slot, int node) {
        return nodePart(slot, node, 0);
    }

    int parent(int slot, int node) {
        return nodePart(slot, node, 1);
    }

    int depth(int slot, int variable) {
        if (!slotOk(slot) || !variableOk(variable)) return BAD;
        Integer e = readOnceTrouble(slot);
        if (e != null) return e;
        for (int[] node : tree(slots[slot])) if (node[0] == variable) return node[2];
        return -1;
    }

    int writeFormula(int slot) {
        Integer e = readOnceTrouble(slot);
        if (e != null) return e;
        List<int[]> t = tree(slots[slot]);
        out = t.isEmpty() ? (slots[slot] == 0 ? "0" : "1") : say(t, 0);
        return out.length();
    }

    private String say(List<int[]> t, int node) {
        int type = t.get(node)[0];
        if (type < 10) return String.valueOf("abcde".charAt(type));
        List<String> said = new ArrayList<>();
        for (int i = 0; i < t.size(); i++)
            if (t.get(i)[1] == node)
                said.add(type == 10 && t.get(i)[0] == 11 ? "(" + say(t, i) + ")" : say(t, i));
        return String.join(type == 10 ? "*" : "+", said);
    }

    int output(int i) {
        return i < 0 || i >= out.length() ? -1 : out.charAt(i);
    }

    int feed(int letter) {
        if (letter < 1 || letter > 127) return BAD;
        if (in.length() == 80) return -6;
        in += (char) letter;
        return in.length();
    }

    int parse(int slot) {
        if (!slotOk(slot)) return BAD;
        String text = in;
        in = "";
        int error = errorPosition(text);
        if (error >= 0) return -100 - error;
        long f = 0;
        for (int p = 0; p < points(); p++) if (holdsAt(text, p)) f += 1L << p;
        put(slot, f);
        return (int) text.chars().filter(Character::isLetter).count();
    }

    private int errorPosition(String text) {
        ArrayDeque<Character> open = new ArrayDeque<>();
        boolean factorDue = true;
        for (int i = 0; i < text.length(); i++) {
            char c = text.charAt(i);
            if (factorDue) {
                if (c == '!' || c == '(') {
                    if (open.size() == 6) return i;
                    open.push(c);
                    continue;
                }
                if ("01".indexOf(c) < 0 && "abcde".substring(0, n).indexOf(c) < 0) return i;
                factorDue = false;
            } else if (c == '+' || c == '*') {
                factorDue = true;
            } else if (c == ')' && !open.isEmpty()) {
                open.pop();
            } else {
                return i;
            }
            while (!factorDue && !open.isEmpty() && open.peek() == '!') open.pop();
        }
        return factorDue || !open.isEmpty() ? text.length() : -1;
    }

    /** The value of a formula known to be one: split at the last outer "+", then at the last outer "*". */
    private boolean holdsAt(String text, int p) {
        for (char sign : new char[] {'+', '*'}) {
            int level = 0;
            for (int i = text.length() - 1; i >= 0; i--) {
                char c = text.charAt(i);
                if (c == ')') level++;
                if (c == '(') level--;
                if (c == sign && level == 0) {
                    boolean left = holdsAt(text.substring(0, i), p);
                    boolean right = holdsAt(text.substring(i + 1), p);
                    return sign == '+' ? left || right : left && right;
                }
            }
        }
        char c = text.charAt(0);
        if (c == '!') return !holdsAt(text.substring(1), p);
        if (c == '(') return holdsAt(text.substring(1, text.length() - 1), p);
        return c == '1' || c >= 'a' && (p & (1 << (c - 'a'))) != 0;
    }

    int combine(int operator, int left, int right, int target) {
        if (operator < 0 || operator > 2 || !slotOk(left) || !slotOk(right) || !slotOk(target)) return BAD;
        if (slots[left] == null || slots[right] == null) return EMPTY;
        long f = 0;
        for (int p = 0; p < points(); p++) {
            int sum = (at(slots[left], p) ? 1 : 0) + (at(slots[right], p) ? 1 : 0);
            if (operator == 0 ? sum == 2 : operator == 1 ? sum > 0 : sum == 1) f += 1L << p;
        }
        return put(target, f);
    }

    int dual(int slot, int target) {
        if (!slotOk(slot) || !slotOk(target)) return BAD;
        if (slots[slot] == null) return EMPTY;
        long f = 0;
        for (int p = 0; p < points(); p++) if (!at(slots[slot], points() - 1 - p)) f += 1L << p;
        return put(target, f);
    }

    private int set(int p, int v, boolean on) {
        boolean is = (p & (1 << v)) != 0;
        return is == on ? p : on ? p + (1 << v) : p - (1 << v);
    }

    int cofactor(int slot, int variable, int bit, int target) {
        if (!slotOk(slot) || !variableOk(variable) || bit < 0 || bit > 1 || !slotOk(target)) return BAD;
        if (slots[slot] == null) return EMPTY;
        long f = 0;
        for (int p = 0; p < points(); p++) if (at(slots[slot], set(p, variable, bit == 1))) f += 1L << p;
        return put(target, f);
    }

    int substitute(int outer, int variable, int inner, int target) {
        if (!slotOk(outer) || !variableOk(variable) || !slotOk(inner) || !slotOk(target)) return BAD;
        if (slots[outer] == null || slots[inner] == null) return EMPTY;
        long f = 0;
        for (int p = 0; p < points(); p++)
            if (at(slots[outer], set(p, variable, at(slots[inner], p)))) f += 1L << p;
        return put(target, f);
    }

    int exchange(int slot, int first, int second, int target) {
        if (!slotOk(slot) || !variableOk(first) || !variableOk(second) || !slotOk(target)) return BAD;
        if (slots[slot] == null) return EMPTY;
        long f = 0;
        for (int p = 0; p < points(); p++) {
            boolean one = (p & (1 << first)) != 0;
            boolean two = (p & (1 << second)) != 0;
            if (at(slots[slot], set(set(p, first, two), second, one))) f += 1L << p;
        }
        return put(target, f);
    }

    private long draw(int seed, int draws) {
        long f = 0;
        int z = seed;
        for (int i = 0; i < draws; i++) {
            z = z * 1103515245 + 12345;
            int q = (z >>> 16) % points();
            for (int p = 0; p < points(); p++) if ((p | q) == p) f |= 1L << p;
        }
        return f;
    }

    int random(int seed, int draws, int target) {
        if (draws < 0 || draws > 12 || !slotOk(target)) return BAD;
        return put(target, draw(seed, draws));
    }

    int readOnceTrials(int seed, int draws, int trials) {
        if (draws < 0 || draws > 12 || trials < 1 || trials > 30) return BAD;
        int count = 0;
        for (int i = 0; i < trials; i++) if (readOnce().contains(draw(seed + i, draws))) count++;
        return count;
    }

    private int sampleCount() {
        int count = 0;
        for (Integer s : samples) if (s != null) count++;
        return count;
    }

    int addSample(int point, int bit) {
        if (!pointOk(point) || bit < 0 || bit > 1) return BAD;
        samples[point] = bit;
        return sampleCount();
    }

    int removeSample(int point) {
        if (!pointOk(point)) return BAD;
        if (samples[point] == null) return -1;
        samples[point] = null;
        return sampleCount();
    }

    private List<Long> agreeing() {
        List<Long> list = new ArrayList<>();
        for (long f : readOnce()) {
            boolean good = true;
            for (int p = 0; p < points(); p++) if (samples[p] != null && (samples[p] == 1) != at(f, p)) good = false;
            if (good) list.add(f);
        }
        return list;
    }

    int extensions() {
        return agreeing().size();
    }

    long extension(int i) {
        List<Long> list = agreeing();
        return i < 0 || i >= list.size() ? -1 : list.get(i);
    }

    long simplestExtension() {
        List<Long> list = agreeing();
        if (list.isEmpty()) return -1;
        return Collections.min(list,
            Comparator.comparingInt((Long f) -> Integer.bitCount(essentialOf(f))).thenComparing(f -> f));
    }

    int readOnceCount(int k) {
        if (k < 0 || k > n) return BAD;
        int count = 0;
        for (long f : readOnce()) if (Integer.bitCount(essentialOf(f)) == k) count++;
        return count;
    }

    int addStep(int operation, int first, int second, int target) {
        if (operation < 0 || operation > 5) return BAD;
        if (steps.size() == 8) return -6;
        steps.add(new int[] {operation, first, second, target});
        return steps.size();
    }

    int clearSteps() {
        int count = steps.size();
        steps = new ArrayList<>();
        return count;
    }

    int runSteps() {
        int done = 0;
        for (int[] s : steps) {
            int answer = switch (s[0]) {
                case 0, 1, 2 -> combine(s[0], s[1], s[2], s[3]);
                case 3 -> dual(s[1], s[3]);
                case 4 -> cofactor(s[1], s[2], 0, s[3]);
                default -> cofactor(s[1], s[2], 1, s[3]);
            };
            if (answer >= 0) done++;
        }
        return done;
    }

    int undo() {
        if (history.isEmpty()) return -7;
        Object[] last = history.removeLast();
        slots[(Integer) last[0]] = (Long) last[1];
        return (Integer) last[0];
    }

    int save() {
        kept = new Object[] {n, slots.clone(), samples.clone(), new ArrayList<>(steps)};
        return usedSlots();
    }

    @SuppressWarnings("unchecked")
    int restore() {
        if (kept == null) return -7;
        n = (Integer) kept[0];
        slots = ((Long[]) kept[1]).clone();
        samples = ((Integer[]) kept[2]).clone();
        steps = new ArrayList<>((List<int[]>) kept[3]);
        history.clear();
        return usedSlots();
    }

    int createArray(int array, int length) {
        if (array < 0 || array > 3 || length > 16) return BAD;
        if (length < 0) return -14;
        arrays[array] = new int[length];
        return 1;
    }

    int setElement(int array, int i, int v) {
        if (array < 0 || array > 3) return BAD;
        if (arrays[array] == null) return -11;
        if (i < 0 || i >= arrays[array].length) return -13;
        arrays[array][i] = v;
        return 1;
    }

    long element(int array, int i) {
        if (array < 0 || array > 3 || arrays[array] == null || i < 0 || i >= arrays[array].length) return Long.MIN_VALUE;
        return arrays[array][i];
    }

    int compare(int array, int slot) {
        if (array < 0 || array > 3 || !slotOk(slot)) return BAD;
        Integer e = monotoneTrouble(slot);
        if (e != null) return e;
        if (arrays[array] == null) return -11;
        for (int i = 0; i < arrays[array].length; i++) if (arrays[array][i] != primeImplicant(slot, i)) return i;
        return -1;
    }

    int usedSlots() {
        int count = 0;
        for (Long s : slots) if (s != null) count++;
        return count;
    }

    int undoable() {
        return history.size();
    }
}
