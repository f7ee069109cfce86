import java.util.ArrayDeque;
import java.util.ArrayList;
import java.util.Arrays;
import java.util.HashMap;
import java.util.HashSet;
import java.util.List;
import java.util.Map;
import java.util.NoSuchElementException;
import java.util.Set;
import java.util.TreeSet;
import java.util.regex.Matcher;
import java.util.regex.Pattern;

/**
 * The document once more, as naively as can be, for RandomRunsTest: all orders, all settings, all sets
 * of edges, all minors are tried. It shares no code and no method with HoloNet.
 */
final class PlainNet {
    private static final Set<String> KEYWORDS = Set.of("field", "table", "gate", "base", "node", "wire");

    private static final class Fault extends Exception {
        private static final long serialVersionUID = 1L;
        final int place;
        final int kind;

        Fault(int place, int kind) {
            this.place = place;
            this.kind = kind;
        }
    }

    private record Token(int place, String text) {
        boolean isNumber() {
            return text.matches("[0-9]{1,2}");
        }

        boolean isName() {
            return text.matches("[a-z]{1,6}") && !KEYWORDS.contains(text);
        }
    }

    private static final class Told {
        int p = 7;
        int lines = 0;
        final List<int[]> tables = new ArrayList<>();
        final List<int[]> bases = new ArrayList<>();
        final List<int[]> nodes = new ArrayList<>();
        final List<int[]> wires = new ArrayList<>();
        final Map<String, Integer> tableNames = new HashMap<>();
        final Map<String, Integer> baseNames = new HashMap<>();
        final Map<String, Integer> nodeNames = new HashMap<>();

        boolean knows(String name) {
            return tableNames.containsKey(name) || baseNames.containsKey(name) || nodeNames.containsKey(name);
        }
    }

    private record State(List<int[]> nodes, List<int[]> wires) {
        State copy() {
            List<int[]> n = new ArrayList<>();
            for (int[] node : nodes) {
                n.add(node.clone());
            }
            List<int[]> w = new ArrayList<>();
            for (int[] wire : wires) {
                w.add(wire.clone());
            }
            return new State(n, w);
        }
    }

    private final StringBuilder tape = new StringBuilder();
    private Told told = new Told();
    private State state = new State(new ArrayList<>(), new ArrayList<>());
    private final ArrayDeque<State> past = new ArrayDeque<>();
    private final State[] kept = new State[2];

    // ---- the text

    private List<Token> tokens = List.of();
    private int next = 0;
    private int end = 0;

    int feed(int... five) {
        if (tape.length() + 20 > 700) {
            return -1;
        }
        for (int number : five) {
            for (byte b : java.nio.ByteBuffer.allocate(4).putInt(number).array()) {
                tape.append((char) (b & 255));
            }
        }
        return tape.length();
    }

    int net(int n) {
        if (n < 0 || n > tape.length()) {
            return -1;
        }
        String text = tape.substring(0, n);
        tape.setLength(0);
        try {
            Told fresh = parse(text);
            told = fresh;
            state = new State(fresh.nodes, fresh.wires).copy();
            past.clear();
            Arrays.fill(kept, null);
            return fresh.lines;
        } catch (Fault fault) {
            return -2 - (8 * fault.place + fault.kind);
        }
    }

    private Told parse(String text) throws Fault {
        tokens = new ArrayList<>();
        next = 0;
        end = text.length();
        Matcher m = Pattern.compile("[a-z]+|[0-9]+|;|[^ \\n]", Pattern.DOTALL).matcher(text);
        while (m.find()) {
            tokens.add(new Token(m.start(), m.group()));
        }
        Told t = new Told();
        if (peek().text.equals("field")) {
            next++;
            t.p = number();
            if (!java.math.BigInteger.valueOf(t.p).isProbablePrime(50) || t.p < 3) {
                throw new Fault(last().place, 4);
            }
            semicolon();
            t.lines++;
        }
        while (next < tokens.size()) {
            line(t);
            t.lines++;
        }
        return t;
    }

    private Token peek() {
        return next < tokens.size() ? tokens.get(next) : new Token(end, "");
    }

    private Token last() {
        return tokens.get(next - 1);
    }

    private int number() throws Fault {
        Token token = peek();
        if (!token.isNumber()) {
            throw new Fault(token.place, 1);
        }
        next++;
        return Integer.parseInt(token.text);
    }

    private int number(int least, int greatest) throws Fault {
        int n = number();
        if (n < least || n > greatest) {
            throw new Fault(last().place, 4);
        }
        return n;
    }

    private String name() throws Fault {
        Token token = peek();
        if (!token.isName()) {
            throw new Fault(token.place, 1);
        }
        next++;
        return token.text;
    }

    private String newName(Told t) throws Fault {
        String name = name();
        if (t.knows(name)) {
            throw new Fault(last().place, 2);
        }
        return name;
    }

    private int known(Map<String, Integer> names) throws Fault {
        String name = name();
        if (!names.containsKey(name)) {
            throw new Fault(last().place, 3);
        }
        return names.get(name);
    }

    private void semicolon() throws Fault {
        if (!peek().text.equals(";")) {
            throw new Fault(peek().place, 1);
        }
        next++;
    }

    private void line(Told t) throws Fault {
        Token word = peek();
        Map<String, Integer> counts = Map.of("table", 8 - t.tables.size(), "gate", 8 - t.tables.size(),
            "base", 5 - t.bases.size(), "node", 6 - t.nodes.size(), "wire", 10 - t.wires.size());
        if (!counts.containsKey(word.text)) {
            throw new Fault(word.place, 1);
        }
        if (counts.get(word.text) == 0) {
            throw new Fault(word.place, 5);
        }
        next++;
        if (word.text.equals("wire")) {
            wireLine(t);
            return;
        }
        String name = newName(t);
        switch (word.text) {
            case "table" -> {
                int[] values = new int[1 << number(1, 4)];
                for (int i = 0; i < values.length; i++) {
                    values[i] = number(0, t.p - 1);
                }
                semicolon();
                t.tableNames.put(name, t.tables.size());
                t.tables.add(values);
            }
            case "gate" -> gateLine(t, name);
            case "base" -> {
                int[] abcd = new int[4];
                for (int i = 0; i < 4; i++) {
                    abcd[i] = number(0, t.p - 1);
                }
                if ((abcd[0] * abcd[3] - abcd[1] * abcd[2]) % t.p == 0) {
                    throw new Fault(last().place, 4);
                }
                semicolon();
                t.baseNames.put(name, t.bases.size());
                t.bases.add(abcd);
            }
            default -> {
                int table = known(t.tableNames);
                semicolon();
                t.nodeNames.put(name, t.nodes.size());
                t.nodes.add(t.tables.get(table).clone());
            }
        }
    }

    private void wireLine(Told t) throws Fault {
        int[] wire = new int[4];
        Set<String> taken = new HashSet<>();
        for (int[] w : t.wires) {
            taken.add(w[0] + "." + w[1]);
            taken.add(w[2] + "." + w[3]);
        }
        for (int side = 0; side < 4; side += 2) {
            wire[side] = known(t.nodeNames);
            wire[side + 1] = number(0, legs(t.nodes.get(wire[side])) - 1);
            if (!taken.add(wire[side] + "." + wire[side + 1])) {
                throw new Fault(last().place, 2);
            }
        }
        semicolon();
        t.wires.add(wire);
    }

    private void gateLine(Told t, String name) throws Fault {
        int points = number(1, 8);
        int legs = number(1, Math.min(4, points));
        List<int[]> edges = new ArrayList<>();
        Set<Set<Integer>> pairs = new HashSet<>();
        while (!peek().text.equals(";")) {
            int a = number(0, points - 1);
            if (edges.size() == 12) {
                throw new Fault(last().place, 5);
            }
            int b = number(0, points - 1);
            if (!pairs.add(new TreeSet<>(List.of(a, b)))) {
                throw new Fault(last().place, 2);
            }
            if (a == b) {
                throw new Fault(last().place, 4);
            }
            edges.add(new int[] {a, b, number(1, t.p - 1)});
        }
        semicolon();
        t.tableNames.put(name, t.tables.size());
        t.tables.add(matchings(points, legs, edges, t.p));
    }

    private static int[] matchings(int points, int legs, List<int[]> edges, int p) {
        int[] values = new int[1 << legs];
        for (int set = 0; set < 1 << edges.size(); set++) {
            long weight = 1;
            int met = 0;
            boolean twice = false;
            for (int e = 0; e < edges.size(); e++) {
                if ((set >> e & 1) == 1) {
                    int both = 1 << edges.get(e)[0] | 1 << edges.get(e)[1];
                    twice |= (met & both) != 0;
                    met |= both;
                    weight = weight * edges.get(e)[2] % p;
                }
            }
            int missed = (1 << points) - 1 & ~met;
            if (!twice && missed < values.length) {
                values[missed] = (int) ((values[missed] + weight) % p);
            }
        }
        return values;
    }

    // ---- tables

    private static int legs(int[] values) {
        return Integer.numberOfTrailingZeros(values.length);
    }

    private static boolean in(int k, int size) {
        return k >= 0 && k < size;
    }

    private boolean noTable(int table) {
        return !in(table, told.tables.size());
    }

    private static int look(int[] values, int i) {
        return i == -1 ? legs(values) : in(i, values.length) ? values[i] : -2;
    }

    int table(int table, int i) {
        return noTable(table) ? -2 : look(told.tables.get(table), i);
    }

    private static int parityOf(int[] values) {
        Set<Integer> seen = new HashSet<>();
        for (int i = 0; i < values.length; i++) {
            if (values[i] != 0) {
                seen.add(Integer.bitCount(i) % 2);
            }
        }
        return seen.isEmpty() ? 2 : seen.size() == 2 ? 3 : seen.iterator().next();
    }

    int parity(int table) {
        return noTable(table) ? -1 : parityOf(told.tables.get(table));
    }

    private int ruleOf(int[] f, int[] pairs) {
        int sum = 0;
        for (int k = 0; k < 4; k++) {
            sum += (k % 2 == 0 ? 1 : -1) * f[pairs[k]] * f[15 - pairs[k]];
        }
        return Math.floorMod(sum, told.p);
    }

    private int ruleOf(int[] f, boolean odd) {
        return ruleOf(f, odd ? new int[] {1, 2, 4, 8} : new int[] {0, 3, 5, 6});
    }

    int identity(int table, boolean odd) {
        if (noTable(table)) {
            return -1;
        }
        int[] f = told.tables.get(table);
        return f.length == 16 ? ruleOf(f, odd) : -2;
    }

    private boolean madeOf(int[] f) {
        return parityOf(f) != 3 && (f.length != 16 || (ruleOf(f, true) == 0 && ruleOf(f, false) == 0));
    }

    int made(int table) {
        return noTable(table) ? -1 : madeOf(told.tables.get(table)) ? 1 : 0;
    }

    int plain(int table) {
        if (noTable(table)) {
            return -1;
        }
        Map<Integer, Integer> seen = new HashMap<>();
        int[] f = told.tables.get(table);
        for (int i = 0; i < f.length; i++) {
            Integer before = seen.put(Integer.bitCount(i), f[i]);
            if (before != null && before != f[i]) {
                return 0;
            }
        }
        return 1;
    }

    int like(int table, int other) {
        if (noTable(table) || noTable(other)) {
            return -1;
        }
        for (int f = 1; f < told.p; f++) {
            if (Arrays.equals(told.tables.get(table), times(told.tables.get(other), f))) {
                return f;
            }
        }
        return 0;
    }

    private int[] times(int[] values, int f) {
        return Arrays.stream(values).map(v -> v * f % told.p).toArray();
    }

    int rank(int table, int legs) {
        if (noTable(table) || !in(legs, told.tables.get(table).length)) {
            return -1;
        }
        int[] f = told.tables.get(table);
        Map<Integer, List<Integer>> byRow = new java.util.TreeMap<>();
        for (int i = 0; i < f.length; i++) {
            byRow.computeIfAbsent(i & legs, k -> new ArrayList<>()).add(f[i]);
        }
        int[][] m = byRow.values().stream()
            .map(row -> row.stream().mapToInt(v -> v).toArray()).toArray(int[][]::new);
        int best = 0;
        for (int rows = 0; rows < 1 << m.length; rows++) {
            for (int columns = 0; columns < 1 << m[0].length; columns++) {
                int size = Integer.bitCount(rows);
                if (size == Integer.bitCount(columns) && size > best && minor(m, rows, columns) != 0) {
                    best = size;
                }
            }
        }
        return best;
    }

    private int minor(int[][] m, int rows, int columns) {
        if (rows == 0) {
            return 1;
        }
        int row = Integer.numberOfTrailingZeros(rows);
        int sum = 0;
        int sign = 1;
        for (int c = 0; c < m[0].length; c++) {
            if ((columns >> c & 1) == 1) {
                sum += sign * m[row][c] * minor(m, rows & ~(1 << row), columns & ~(1 << c));
                sign = -sign;
            }
        }
        return Math.floorMod(sum, told.p);
    }

    // ---- bases

    private boolean noBase(int base) {
        return !in(base, told.bases.size());
    }

    int base(int base, int what) {
        if (noBase(base) || !in(what, 5)) {
            throw new NoSuchElementException();
        }
        int[] b = told.bases.get(base);
        return what < 4 ? b[what] : Math.floorMod(b[0] * b[3] - b[1] * b[2], told.p);
    }

    /** At each INDEX the sum over all old ones, a factor of the matrix for each LEG. */
    private int[] basedBy(int[] f, int[] abcd) {
        int[] answer = new int[f.length];
        for (int i = 0; i < f.length; i++) {
            long sum = 0;
            for (int j = 0; j < f.length; j++) {
                long term = f[j];
                for (int leg = 0; leg < legs(f); leg++) {
                    term = term * abcd[2 * (i >> leg & 1) + (j >> leg & 1)] % told.p;
                }
                sum += term;
            }
            answer[i] = (int) (sum % told.p);
        }
        return answer;
    }

    int based(int table, int base, int i) {
        if (noTable(table) || noBase(base) || !in(i, told.tables.get(table).length)) {
            return -1;
        }
        return basedBy(told.tables.get(table), told.bases.get(base))[i];
    }

    int fits(int table, int base) {
        if (noTable(table) || noBase(base)) {
            return -1;
        }
        return madeOf(basedBy(told.tables.get(table), told.bases.get(base))) ? 1 : 0;
    }

    int first(int table) {
        if (noTable(table)) {
            return -1;
        }
        for (int base = 0; base < told.bases.size(); base++) {
            if (fits(table, base) == 1) {
                return base;
            }
        }
        return -2;
    }

    int seek(int table) {
        if (noTable(table)) {
            return -1;
        }
        for (int code = 0; code < told.p * told.p; code++) {
            int x = code / told.p;
            int y = code % told.p;
            if (x != y && madeOf(basedBy(told.tables.get(table), new int[] {1, 1, x, y}))) {
                return code;
            }
        }
        return -2;
    }

    // ---- the net

    private boolean noNode(int node) {
        return !in(node, state.nodes.size());
    }

    private boolean noLeg(int node, int leg) {
        return noNode(node) || !in(leg, legs(state.nodes.get(node)));
    }

    int node(int node, int i) {
        return noNode(node) ? -2 : look(state.nodes.get(node), i);
    }

    int wire(int wire, int what) {
        if (!in(wire, state.wires.size()) || !in(what, 4)) {
            throw new NoSuchElementException();
        }
        return state.wires.get(wire)[what];
    }

    private List<Integer> openLegs() {
        List<Integer> answer = new ArrayList<>();
        for (int node = 0; node < state.nodes.size(); node++) {
            for (int leg = 0; leg < legs(state.nodes.get(node)); leg++) {
                if (wireAt(node, leg) == -1) {
                    answer.add(10 * node + leg);
                }
            }
        }
        return answer;
    }

    private int wireAt(int node, int leg) {
        for (int w = 0; w < state.wires.size(); w++) {
            int[] wire = state.wires.get(w);
            if ((wire[0] == node && wire[1] == leg) || (wire[2] == node && wire[3] == leg)) {
                return w;
            }
        }
        return -1;
    }

    int open(int k) {
        List<Integer> legs = openLegs();
        return k == -1 ? legs.size() : in(k, legs.size()) ? legs.get(k) : -2;
    }

    /** {SUM, ways} of some NODES; LEGS that lead out of them are as openBits says, or 0. */
    private int[] sumOf(int nodes, Map<Integer, Integer> openBits) {
        int sum = 0;
        int ways = 0;
        List<Integer> inner = new ArrayList<>();
        for (int w = 0; w < state.wires.size(); w++) {
            int[] wire = state.wires.get(w);
            if ((nodes >> wire[0] & 1) == 1 && (nodes >> wire[2] & 1) == 1) {
                inner.add(w);
            }
        }
        for (int setting = 0; setting < 1 << inner.size(); setting++) {
            int product = 1;
            for (int node = 0; node < state.nodes.size(); node++) {
                if ((nodes >> node & 1) == 0) {
                    continue;
                }
                int index = 0;
                for (int leg = 0; leg < legs(state.nodes.get(node)); leg++) {
                    int k = inner.indexOf(wireAt(node, leg));
                    int bit = k >= 0 ? setting >> k & 1 : openBits.getOrDefault(10 * node + leg, 0);
                    index += bit << leg;
                }
                product = product * state.nodes.get(node)[index] % told.p;
            }
            sum = (sum + product) % told.p;
            ways += product != 0 ? 1 : 0;
        }
        return new int[] {sum, ways};
    }

    private int[] sumAt(int index) {
        List<Integer> legs = openLegs();
        Map<Integer, Integer> bits = new HashMap<>();
        for (int k = 0; k < legs.size(); k++) {
            bits.put(legs.get(k), index >> k & 1);
        }
        return sumOf((1 << state.nodes.size()) - 1, bits);
    }

    int sum(int index) {
        return in(index, 1 << openLegs().size()) ? sumAt(index)[0] : -1;
    }

    int total() {
        int sum = 0;
        for (int index = 0; index < 1 << openLegs().size(); index++) {
            sum += sum(index);
        }
        return sum % told.p;
    }

    int ways(int index) {
        return in(index, 1 << openLegs().size()) ? sumAt(index)[1] : -1;
    }

    int within(int nodes) {
        return in(nodes, 1 << state.nodes.size()) ? sumOf(nodes, Map.of())[0] : -1;
    }

    int width(int what) {
        if (!in(what, state.nodes.size() + 1)) {
            return -1;
        }
        List<Integer> best = new ArrayList<>();
        int least = tryOrders(new ArrayList<>(), best, 1000);
        return what == 0 ? least : best.get(what - 1);
    }

    private int tryOrders(List<Integer> order, List<Integer> best, int least) {
        if (order.size() == state.nodes.size()) {
            int width = widthOf(order);
            if (width < least) {
                best.clear();
                best.addAll(order);
                return width;
            }
            return least;
        }
        int now = least;
        for (int node = 0; node < state.nodes.size(); node++) {
            if (!order.contains(node)) {
                order.add(node);
                now = tryOrders(order, best, now);
                order.remove(order.size() - 1);
            }
        }
        return now;
    }

    private int widthOf(List<Integer> order) {
        int most = 0;
        for (int taken = 1; taken <= order.size(); taken++) {
            List<Integer> nodes = order.subList(0, taken);
            int out = 0;
            for (int node : nodes) {
                for (int leg = 0; leg < legs(state.nodes.get(node)); leg++) {
                    int w = wireAt(node, leg);
                    if (w == -1 || !nodes.contains(state.wires.get(w)[0]) || !nodes.contains(state.wires.get(w)[2])) {
                        out++;
                    }
                }
            }
            most = Math.max(most, out);
        }
        return most;
    }

    // ---- acts

    private void act() {
        past.addLast(state.copy());
        if (past.size() > 12) {
            past.removeFirst();
        }
    }

    private void changeLeg(int node, int leg, int[] m) {
        int[] old = state.nodes.get(node);
        int[] fresh = new int[old.length];
        for (int i = 0; i < old.length; i++) {
            int row = i >> leg & 1;
            int u = old[i & ~(1 << leg)];
            int v = old[i | 1 << leg];
            fresh[i] = Math.floorMod(m[2 * row] * u + m[2 * row + 1] * v, told.p);
        }
        state.nodes.set(node, fresh);
    }

    boolean change(int wire, int base) {
        if (!in(wire, state.wires.size()) || noBase(base)) {
            return false;
        }
        act();
        int[] b = told.bases.get(base);
        int[] w = state.wires.get(wire);
        java.math.BigInteger p = java.math.BigInteger.valueOf(told.p);
        int by = java.math.BigInteger.valueOf(base(base, 4)).modInverse(p).intValue();
        changeLeg(w[0], w[1], b);
        changeLeg(w[2], w[3], new int[] {b[3] * by % told.p, -b[2] * by % told.p, -b[1] * by % told.p,
            b[0] * by % told.p});
        return true;
    }

    boolean plug(int node, int table) {
        if (noNode(node) || noTable(table) || told.tables.get(table).length != state.nodes.get(node).length) {
            return false;
        }
        act();
        state.nodes.set(node, told.tables.get(table).clone());
        return true;
    }

    boolean scale(int node, int f) {
        if (noNode(node) || f < 1 || f > told.p - 1) {
            return false;
        }
        act();
        state.nodes.set(node, times(state.nodes.get(node), f));
        return true;
    }

    boolean swap(int node, int leg, int other) {
        if (noLeg(node, leg) || noLeg(node, other) || leg == other) {
            return false;
        }
        act();
        int[] old = state.nodes.get(node);
        int[] fresh = new int[old.length];
        for (int i = 0; i < old.length; i++) {
            int rest = i & ~(1 << leg) & ~(1 << other);
            fresh[rest | (i >> leg & 1) << other | (i >> other & 1) << leg] = old[i];
        }
        state.nodes.set(node, fresh);
        return true;
    }

    int join(int node, int leg, int other, int otherLeg) {
        if (noLeg(node, leg) || noLeg(other, otherLeg) || wireAt(node, leg) != -1 || wireAt(other, otherLeg) != -1) {
            return -1;
        }
        if ((node == other && leg == otherLeg) || state.wires.size() == 10) {
            return -1;
        }
        act();
        state.wires.add(new int[] {node, leg, other, otherLeg});
        return state.wires.size() - 1;
    }

    int cut(int wire) {
        if (!in(wire, state.wires.size())) {
            return -1;
        }
        act();
        state.wires.remove(wire);
        return state.wires.size();
    }

    int undo() {
        if (past.isEmpty()) {
            return -1;
        }
        state = past.removeLast();
        return past.size();
    }

    boolean keep(int k, boolean back) {
        if (!in(k, 2) || (back && kept[k] == null)) {
            return false;
        }
        if (back) {
            state = kept[k].copy();
            past.clear();
        } else {
            kept[k] = state.copy();
        }
        return true;
    }

    int count(int what) {
        int[] all = {told.p, told.tables.size(), told.bases.size(), state.nodes.size(), state.wires.size(),
            openLegs().size(), past.size(), tape.length()};
        return in(what, 8) ? all[what] : -1;
    }
}
