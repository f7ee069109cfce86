import java.util.NoSuchElementException;

/**
 * Signature tables, matchgates, changes of base and networks summed, modulo a prime.
 *
 * <p>Words in capitals (TABLE, LEG, OPEN ..) mean what the document's Terms say. Every row is made
 * in a constructor and used again, so that no call makes an object but what it throws.
 */
public final class HoloNet {
    public static final int NONE = -1;

    private static final int NONE_SUCH = -2;
    private static final int TAPE_BYTES = 700;
    private static final int BYTES_A_FEED = 20;
    private static final int USUAL_FIELD = 7;
    private static final int LEAST_FIELD = 3;
    private static final int GREATEST_FIELD = 97;
    private static final int MOST_LEGS = 4;
    private static final int MOST_VALUES = 16;
    private static final int MOST_POINTS = 8;
    private static final int MOST_EDGES = 12;
    private static final int MOST_TABLES = 8;
    private static final int MOST_BASES = 5;
    private static final int MOST_NODES = 6;
    private static final int MOST_WIRES = 10;
    private static final int MOST_NAMES = MOST_TABLES + MOST_BASES + MOST_NODES;
    private static final int MOST_ACTS = 12;
    private static final int KEEPS = 2;

    private static final int EVEN = 0;
    private static final int ODD = 1;
    private static final int NIL = 2;
    private static final int MIXED = 3;

    private static final int FIELD = 0;
    private static final int TABLE = 1;
    private static final int GATE = 2;
    private static final int BASE = 3;
    private static final int NODE = 4;
    private static final int WIRE = 5;

    private final byte[] tape = new byte[TAPE_BYTES];
    private int tapeLength = 0;
    private Text text = new Text();
    // A TEXT with a FAULT must leave the one in use as it is, so reading goes to this one.
    private Text spare = new Text();
    private final Net now = new Net();
    private final Acts acts = new Acts();
    private final Net[] kept = new Net[KEEPS];
    private final boolean[] laid = new boolean[KEEPS];
    private final Reader reader = new Reader();
    private final Summer summer = new Summer();
    private final Orders orders = new Orders();
    private final Matrix matrix = new Matrix();
    private final Signature turned = new Signature();
    private final Base helper = new Base();

    public HoloNet() {
        for (int k = 0; k < KEEPS; k++) {
            kept[k] = new Net();
        }
    }

    public int feed(int a, int b, int c, int d, int e) {
        if (tapeLength > TAPE_BYTES - BYTES_A_FEED) {
            return NONE;
        }
        layOnTape(a);
        layOnTape(b);
        layOnTape(c);
        layOnTape(d);
        layOnTape(e);
        return tapeLength;
    }

    public int net(int n) {
        if (n < 0 || n > tapeLength) {
            return NONE;
        }
        tapeLength = 0;
        int answer = reader.read(tape, n, spare);
        if (answer < 0) {
            return answer;
        }
        Text told = spare;
        spare = text;
        text = told;
        now.copyFrom(text.start);
        acts.forget();
        for (int k = 0; k < KEEPS; k++) {
            laid[k] = false;
        }
        return answer;
    }

    // ---- tables

    public int table(int table, int i) {
        if (!isTable(table)) {
            return NONE_SUCH;
        }
        return valueOrLegs(text.tables[table], i);
    }

    public int parity(int table) {
        return isTable(table) ? text.tables[table].parityKind() : NONE;
    }

    public int identity(int table, boolean odd) {
        if (!isTable(table)) {
            return NONE;
        }
        Signature asked = text.tables[table];
        return asked.legs == MOST_LEGS ? asked.rule(odd, text.p) : NONE_SUCH;
    }

    public int made(int table) {
        if (!isTable(table)) {
            return NONE;
        }
        return text.tables[table].isMade(text.p) ? 1 : 0;
    }

    public int plain(int table) {
        if (!isTable(table)) {
            return NONE;
        }
        return text.tables[table].dependsOnBitCount() ? 1 : 0;
    }

    public int like(int table, int other) {
        if (!isTable(table) || !isTable(other)) {
            return NONE;
        }
        return text.tables[table].factorOver(text.tables[other], text.p);
    }

    public int rank(int table, int legs) {
        if (!isTable(table) || !text.tables[table].hasIndex(legs)) {
            return NONE;
        }
        matrix.fill(text.tables[table], legs);
        return matrix.rankModulo(text.p);
    }

    // ---- bases

    public int base(int base, int what) throws NoSuchElementException {
        if (!isBase(base)) {
            throw new NoSuchElementException("no such base");
        }
        Base asked = text.bases[base];
        switch (what) {
            case 0:
                return asked.a;
            case 1:
                return asked.b;
            case 2:
                return asked.c;
            case 3:
                return asked.d;
            case 4:
                return asked.determinant(text.p);
            default:
                throw new NoSuchElementException("a base has no such part");
        }
    }

    public int based(int table, int base, int i) {
        if (!isTable(table) || !isBase(base) || !text.tables[table].hasIndex(i)) {
            return NONE;
        }
        turned.copyFrom(text.tables[table]);
        turned.changeAllLegs(text.bases[base], text.p);
        return turned.values[i];
    }

    public int fits(int table, int base) {
        if (!isTable(table) || !isBase(base)) {
            return NONE;
        }
        return isMadeBy(text.tables[table], text.bases[base]) ? 1 : 0;
    }

    public int first(int table) {
        if (!isTable(table)) {
            return NONE;
        }
        for (int base = 0; base < text.baseCount; base++) {
            if (isMadeBy(text.tables[table], text.bases[base])) {
                return base;
            }
        }
        return NONE_SUCH;
    }

    public int seek(int table) {
        if (!isTable(table)) {
            return NONE;
        }
        // A row (x, y) made c times as great makes a VALUE c times as great for each bit set: PARITY
        // stays, and so does a RULE that is 0. So (0, 1) stands for all (0, y), (1, y) for all others.
        Signature asked = text.tables[table];
        if (isMadeByRow(asked, 0, 1)) {
            return 1;
        }
        for (int y = 0; y < text.p; y++) {
            if (y != 1 && isMadeByRow(asked, 1, y)) {
                return text.p + y;
            }
        }
        return NONE_SUCH;
    }

    // ---- the net

    public int node(int node, int i) {
        if (!now.hasNode(node)) {
            return NONE_SUCH;
        }
        return valueOrLegs(now.nodes[node], i);
    }

    public int wire(int wire, int what) throws NoSuchElementException {
        if (!now.hasWire(wire) || what < 0 || what > 3) {
            throw new NoSuchElementException("no such wire, or no such part of it");
        }
        int end = now.ends[2 * wire + what / 2];
        return what % 2 == 0 ? end / MOST_LEGS : end % MOST_LEGS;
    }

    public int open(int k) {
        if (k == NONE) {
            return now.openCount();
        }
        int leg = now.openLeg(k);
        return leg == NONE ? NONE_SUCH : 10 * (leg / MOST_LEGS) + leg % MOST_LEGS;
    }

    public int sum(int index) {
        if (!isOpenIndex(index)) {
            return NONE;
        }
        summer.goThrough(now, index, text.p);
        return summer.sum;
    }

    public int total() {
        summer.goThroughAll(now, text.p);
        return summer.sum;
    }

    public int ways(int index) {
        if (!isOpenIndex(index)) {
            return NONE;
        }
        summer.goThrough(now, index, text.p);
        return summer.ways;
    }

    public int within(int nodes) {
        if (nodes < 0 || nodes > now.allNodes()) {
            return NONE;
        }
        summer.goThroughSome(now, nodes, text.p);
        return summer.sum;
    }

    public int width(int what) {
        if (what < 0 || what > now.nodeCount) {
            return NONE;
        }
        orders.weigh(now);
        return what == 0 ? orders.leastWidth() : orders.bestNode(now, what - 1);
    }

    // ---- acts

    public boolean change(int wire, int base) {
        if (!now.hasWire(wire) || !isBase(base)) {
            return false;
        }
        acts.remember(now);
        Base by = text.bases[base];
        changeLegOfNet(now.ends[2 * wire], by);
        helper.setInverseTurnedOver(by, text.p);
        changeLegOfNet(now.ends[2 * wire + 1], helper);
        return true;
    }

    public boolean plug(int node, int table) {
        if (!now.hasNode(node) || !isTable(table)) {
            return false;
        }
        if (now.nodes[node].legs != text.tables[table].legs) {
            return false;
        }
        acts.remember(now);
        now.nodes[node].copyFrom(text.tables[table]);
        return true;
    }

    public boolean scale(int node, int f) {
        if (!now.hasNode(node) || f < 1 || f >= text.p) {
            return false;
        }
        acts.remember(now);
        now.nodes[node].multiply(f, text.p);
        return true;
    }

    public boolean swap(int node, int leg, int other) {
        if (!now.hasLeg(node, leg) || !now.hasLeg(node, other) || leg == other) {
            return false;
        }
        acts.remember(now);
        now.nodes[node].exchangeLegs(leg, other);
        return true;
    }

    public int join(int node, int leg, int other, int otherLeg) {
        if (!now.hasLeg(node, leg) || !now.hasLeg(other, otherLeg)) {
            return NONE;
        }
        int near = MOST_LEGS * node + leg;
        int far = MOST_LEGS * other + otherLeg;
        if (near == far || now.hasWireAt(near) || now.hasWireAt(far) || now.wireCount >= MOST_WIRES) {
            return NONE;
        }
        acts.remember(now);
        now.addWire(near, far);
        return now.wireCount - 1;
    }

    public int cut(int wire) {
        if (!now.hasWire(wire)) {
            return NONE;
        }
        acts.remember(now);
        now.removeWire(wire);
        return now.wireCount;
    }

    public int undo() {
        if (acts.size == 0) {
            return NONE;
        }
        acts.restore(now);
        return acts.size;
    }

    public boolean keep(int k, boolean back) {
        if (k < 0 || k >= KEEPS) {
            return false;
        }
        if (!back) {
            kept[k].copyFrom(now);
            laid[k] = true;
            return true;
        }
        if (!laid[k]) {
            return false;
        }
        now.copyFrom(kept[k]);
        acts.forget();
        return true;
    }

    public int count(int what) {
        switch (what) {
            case 0:
                return text.p;
            case 1:
                return text.tableCount;
            case 2:
                return text.baseCount;
            case 3:
                return now.nodeCount;
            case 4:
                return now.wireCount;
            case 5:
                return now.openCount();
            case 6:
                return acts.size;
            case 7:
                return tapeLength;
            default:
                return NONE;
        }
    }

    // ---- helpers of the face

    private void layOnTape(int number) {
        for (int shift = 24; shift >= 0; shift -= 8) {
            if (tapeLength < TAPE_BYTES) {
                tape[tapeLength] = (byte) (number >>> shift);
                tapeLength++;
            }
        }
    }

    private boolean isTable(int table) {
        return table >= 0 && table < text.tableCount;
    }

    private boolean isBase(int base) {
        return base >= 0 && base < text.baseCount;
    }

    private boolean isOpenIndex(int index) {
        return index >= 0 && index < 1 << now.openCount();
    }

    private static int valueOrLegs(Signature asked, int i) {
        if (i == NONE) {
            return asked.legs;
        }
        return asked.hasIndex(i) ? asked.values[i] : NONE_SUCH;
    }

    private boolean isMadeBy(Signature asked, Base by) {
        turned.copyFrom(asked);
        turned.changeAllLegs(by, text.p);
        return turned.isMade(text.p);
    }

    private boolean isMadeByRow(Signature asked, int x, int y) {
        helper.a = 1;
        helper.b = 1;
        helper.c = x;
        helper.d = y;
        return isMadeBy(asked, helper);
    }

    private void changeLegOfNet(int leg, Base by) {
        now.nodes[leg / MOST_LEGS].changeLeg(leg % MOST_LEGS, by, text.p);
    }

    private static int mod(int value, int p) {
        return p > 0 ? Math.floorMod(value, p) : 0;
    }

    /** The matrix ((a, b), (c, d)) by which LEGS are CHANGED. */
    private static final class Base {
        int a = 0;
        int b = 0;
        int c = 0;
        int d = 0;

        int determinant(int p) {
            return mod(a * d - b * c, p);
        }

        void setInverseTurnedOver(Base other, int p) {
            int by = inverse(other.determinant(p), p);
            a = mod(other.d * by, p);
            b = mod(-other.c * by, p);
            c = mod(-other.b * by, p);
            d = mod(other.a * by, p);
        }

        private static int inverse(int number, int p) {
            for (int other = 1; other < p; other++) {
                if (mod(number * other, p) == 1) {
                    return other;
                }
            }
            return 0;
        }
    }

    /** The VALUES of a TABLE or of a NODE. */
    private static final class Signature {
        int legs = 0;
        final int[] values = new int[MOST_VALUES];

        int size() {
            return 1 << legs;
        }

        boolean hasIndex(int index) {
            return index >= 0 && index < size();
        }

        void copyFrom(Signature other) {
            legs = other.legs;
            System.arraycopy(other.values, 0, values, 0, MOST_VALUES);
        }

        int parityKind() {
            boolean even = false;
            boolean odd = false;
            for (int i = 0; i < size(); i++) {
                if (values[i] != 0) {
                    boolean evenHere = Integer.bitCount(i) % 2 == 0;
                    even = even || evenHere;
                    odd = odd || !evenHere;
                }
            }
            if (even) {
                return odd ? MIXED : EVEN;
            }
            return odd ? ODD : NIL;
        }

        int rule(boolean odd, int p) {
            int[] f = values;
            if (odd) {
                return mod(f[1] * f[14] - f[2] * f[13] + f[4] * f[11] - f[8] * f[7], p);
            }
            return mod(f[0] * f[15] - f[3] * f[12] + f[5] * f[10] - f[6] * f[9], p);
        }

        boolean isMade(int p) {
            if (parityKind() == MIXED) {
                return false;
            }
            return legs != MOST_LEGS || (rule(false, p) == 0 && rule(true, p) == 0);
        }

        boolean dependsOnBitCount() {
            for (int i = 0; i < size(); i++) {
                int lowestAlike = (1 << Integer.bitCount(i)) - 1;
                if (values[i] != values[lowestAlike]) {
                    return false;
                }
            }
            return true;
        }

        int factorOver(Signature other, int p) {
            if (legs != other.legs) {
                return 0;
            }
            for (int f = 1; f < p; f++) {
                if (isTimes(f, other, p)) {
                    return f;
                }
            }
            return 0;
        }

        private boolean isTimes(int f, Signature other, int p) {
            for (int i = 0; i < size(); i++) {
                if (values[i] != mod(f * other.values[i], p)) {
                    return false;
                }
            }
            return true;
        }

        void changeLeg(int leg, Base by, int p) {
            int bit = 1 << leg;
            for (int i = 0; i < size(); i++) {
                if ((i & bit) == 0 && (i | bit) < MOST_VALUES) {
                    int u = values[i];
                    int v = values[i | bit];
                    values[i] = mod(by.a * u + by.b * v, p);
                    values[i | bit] = mod(by.c * u + by.d * v, p);
                }
            }
        }

        void changeAllLegs(Base by, int p) {
            for (int leg = 0; leg < legs; leg++) {
                changeLeg(leg, by, p);
            }
        }

        void multiply(int f, int p) {
            for (int i = 0; i < size(); i++) {
                values[i] = mod(f * values[i], p);
            }
        }

        void exchangeLegs(int leg, int other) {
            int bits = 1 << leg | 1 << other;
            for (int i = 0; i < size(); i++) {
                // Each pair once: from the INDEX that has the one bit to that with the other one.
                if ((i & bits) == 1 << leg && (i ^ bits) < MOST_VALUES) {
                    int value = values[i];
                    values[i] = values[i ^ bits];
                    values[i ^ bits] = value;
                }
            }
        }

        void foldLeg(int leg, int p) {
            int bit = 1 << leg;
            for (int i = 0; i < size(); i++) {
                if ((i & bit) == 0 && (i | bit) < MOST_VALUES) {
                    values[i] = mod(values[i] + values[i | bit], p);
                }
            }
        }
    }

    /** The VALUES of a TABLE laid out by some of its LEGS, for its RANK. */
    private static final class Matrix {
        private int rows = 0;
        private int columns = 0;
        private final int[] cells = new int[MOST_VALUES];

        void fill(Signature from, int rowLegs) {
            int columnLegs = from.size() - 1 & ~rowLegs;
            rows = 1 << Integer.bitCount(rowLegs);
            columns = 1 << Integer.bitCount(columnLegs);
            for (int row = 0; row < rows; row++) {
                for (int column = 0; column < columns; column++) {
                    int index = spread(row, rowLegs) | spread(column, columnLegs);
                    cells[row * columns + column] = from.values[index];
                }
            }
        }

        private static int spread(int setting, int legs) {
            int index = 0;
            int taken = 0;
            for (int leg = 0; leg < MOST_LEGS; leg++) {
                if ((legs >> leg & 1) == 1) {
                    index |= (setting >> taken & 1) << leg;
                    taken++;
                }
            }
            return index;
        }

        int rankModulo(int p) {
            int rank = 0;
            for (int column = 0; column < columns && rank < rows; column++) {
                int pivot = rowWithout0(rank, column);
                if (pivot != NONE) {
                    exchangeRows(rank, pivot);
                    clearBelow(rank, column, p);
                    rank++;
                }
            }
            return rank;
        }

        private int rowWithout0(int from, int column) {
            for (int row = from; row < rows; row++) {
                if (cells[row * columns + column] != 0) {
                    return row;
                }
            }
            return NONE;
        }

        private void exchangeRows(int row, int other) {
            for (int column = 0; column < columns; column++) {
                int cell = cells[row * columns + column];
                cells[row * columns + column] = cells[other * columns + column];
                cells[other * columns + column] = cell;
            }
        }

        // Rows are multiplied by the pivot, which isn't 0, so no inverse is needed.
        private void clearBelow(int top, int column, int p) {
            int pivot = cells[top * columns + column];
            for (int row = top + 1; row < rows; row++) {
                int factor = cells[row * columns + column];
                for (int k = 0; k < columns; k++) {
                    int cell = cells[row * columns + k] * pivot - cells[top * columns + k] * factor;
                    cells[row * columns + k] = mod(cell, p);
                }
            }
        }
    }

    /** The graph of a gate, whose MATCHINGS make a TABLE. */
    private static final class Graph {
        int points = 0;
        int edgeCount = 0;
        private final int[] edgePoints = new int[MOST_EDGES];
        private final int[] edgeWeights = new int[MOST_EDGES];
        // By a set of POINTS (bits): the weights of all MATCHINGS of these alone, together.
        private final int[] matched = new int[1 << MOST_POINTS];

        void begin(int pointsTold) {
            points = pointsTold;
            edgeCount = 0;
        }

        boolean hasEdge(int point, int other) {
            int both = 1 << point | 1 << other;
            for (int edge = 0; edge < edgeCount; edge++) {
                if (edgePoints[edge] == both) {
                    return true;
                }
            }
            return false;
        }

        void addEdge(int point, int other, int weight) {
            if (edgeCount < MOST_EDGES) {
                edgePoints[edgeCount] = 1 << point | 1 << other;
                edgeWeights[edgeCount] = weight;
                edgeCount++;
            }
        }

        void fill(Signature into, int p) {
            int all = (1 << points) - 1;
            matched[0] = 1;
            for (int set = 1; set <= all; set++) {
                matched[set] = matchingsOf(set, p);
            }
            for (int i = 0; i < into.size(); i++) {
                into.values[i] = matched[all & ~i];
            }
        }

        // The lowest POINT must be met by one of its EDGES: so each MATCHING counts once.
        private int matchingsOf(int set, int p) {
            int lowest = set & -set;
            int sum = 0;
            for (int edge = 0; edge < edgeCount; edge++) {
                int both = edgePoints[edge];
                if ((both & lowest) != 0 && (both & set) == both) {
                    sum += edgeWeights[edge] * matched[set ^ both];
                }
            }
            return mod(sum, p);
        }
    }

    /** NODES with VALUES of their own and WIRES; a LEG is held as MOST_LEGS * NODE + LEG. */
    private static final class Net {
        int nodeCount = 0;
        int wireCount = 0;
        final Signature[] nodes = new Signature[MOST_NODES];
        // Of each WIRE the LEG told first, then the other one.
        final int[] ends = new int[2 * MOST_WIRES];

        Net() {
            for (int node = 0; node < MOST_NODES; node++) {
                nodes[node] = new Signature();
            }
        }

        void copyFrom(Net other) {
            nodeCount = other.nodeCount;
            wireCount = other.wireCount;
            for (int node = 0; node < nodeCount; node++) {
                nodes[node].copyFrom(other.nodes[node]);
            }
            System.arraycopy(other.ends, 0, ends, 0, 2 * MOST_WIRES);
        }

        boolean hasNode(int node) {
            return node >= 0 && node < nodeCount;
        }

        boolean hasLeg(int node, int leg) {
            return hasNode(node) && leg >= 0 && leg < nodes[node].legs;
        }

        boolean hasWire(int wire) {
            return wire >= 0 && wire < wireCount;
        }

        boolean hasWireAt(int leg) {
            for (int end = 0; end < 2 * wireCount; end++) {
                if (ends[end] == leg) {
                    return true;
                }
            }
            return false;
        }

        int allNodes() {
            return (1 << nodeCount) - 1;
        }

        int openCount() {
            int legs = 0;
            for (int node = 0; node < nodeCount; node++) {
                legs += nodes[node].legs;
            }
            return legs - 2 * wireCount;
        }

        int openLeg(int k) {
            int seen = 0;
            for (int leg = 0; leg < MOST_LEGS * nodeCount; leg++) {
                if (isOpen(leg)) {
                    if (seen == k) {
                        return leg;
                    }
                    seen++;
                }
            }
            return NONE;
        }

        boolean isOpen(int leg) {
            return hasLeg(leg / MOST_LEGS, leg % MOST_LEGS) && !hasWireAt(leg);
        }

        boolean isBetween(int wire, int someNodes) {
            int node = ends[2 * wire] / MOST_LEGS;
            int other = ends[2 * wire + 1] / MOST_LEGS;
            return (someNodes >> node & 1) == 1 && (someNodes >> other & 1) == 1;
        }

        void addNode(Signature from) {
            if (nodeCount < MOST_NODES) {
                nodes[nodeCount].copyFrom(from);
                nodeCount++;
            }
        }

        void addWire(int near, int far) {
            if (wireCount < MOST_WIRES) {
                ends[2 * wireCount] = near;
                ends[2 * wireCount + 1] = far;
                wireCount++;
            }
        }

        void removeWire(int wire) {
            for (int end = 2 * wire; end < 2 * (wireCount - 1); end++) {
                ends[end] = ends[end + 2];
            }
            wireCount--;
        }
    }

    /** What a TEXT tells: P, TABLES, BASES, and the NET as it is at first. */
    private static final class Text {
        int p = USUAL_FIELD;
        int tableCount = 0;
        final Signature[] tables = new Signature[MOST_TABLES];
        int baseCount = 0;
        final Base[] bases = new Base[MOST_BASES];
        final Net start = new Net();
        private int nameCount = 0;
        private final int[] names = new int[MOST_NAMES];
        private final int[] nameKinds = new int[MOST_NAMES];
        private final int[] nameNumbers = new int[MOST_NAMES];

        Text() {
            for (int table = 0; table < MOST_TABLES; table++) {
                tables[table] = new Signature();
            }
            for (int base = 0; base < MOST_BASES; base++) {
                bases[base] = new Base();
            }
        }

        void clear() {
            p = USUAL_FIELD;
            tableCount = 0;
            baseCount = 0;
            nameCount = 0;
            start.nodeCount = 0;
            start.wireCount = 0;
        }

        void addName(int name, int kind, int number) {
            if (nameCount < MOST_NAMES) {
                names[nameCount] = name;
                nameKinds[nameCount] = kind;
                nameNumbers[nameCount] = number;
                nameCount++;
            }
        }

        boolean hasName(int name) {
            for (int k = 0; k < nameCount; k++) {
                if (names[k] == name) {
                    return true;
                }
            }
            return false;
        }

        int numberOf(int name, int kind) {
            for (int k = 0; k < nameCount; k++) {
                if (names[k] == name && nameKinds[k] == kind) {
                    return nameNumbers[k];
                }
            }
            return NONE;
        }
    }

    /**
     * Reads a TEXT from left to right and stops at the first FAULT: so its place is the least. A
     * method answers false once there is a FAULT.
     */
    private static final class Reader {
        private static final int WORD = 0;
        private static final int NUMBER = 1;
        private static final int SEMICOLON = 2;
        private static final int END = 3;
        private static final int NO_TOKEN = 4;

        private static final int UNFIT = 1;
        private static final int TWICE = 2;
        private static final int UNKNOWN = 3;
        private static final int WRONG_NUMBER = 4;
        private static final int TOO_MANY = 5;

        private static final int LONGEST_WORD = 6;
        private static final int LONGEST_NUMBER = 2;
        private static final int BITS_A_LETTER = 5;

        private final Graph graph = new Graph();
        private final int[] keywords = {
            packed("field"), packed("table"), packed("gate"), packed("base"), packed("node"), packed("wire")
        };
        private int at = 0;
        private int length = 0;
        private int token = END;
        private int place = 0;
        // A NUMBER's value, a WORD's letters packed: six of five bits each.
        private int value = 0;
        private int fault = 0;

        private static int packed(String word) {
            int letters = 0;
            for (int k = 0; k < word.length(); k++) {
                letters = letters << BITS_A_LETTER | word.charAt(k) - 'a' + 1;
            }
            return letters;
        }

        /** How many LINES there are, or what is told of a FAULT. */
        int read(byte[] tape, int bytes, Text into) {
            at = 0;
            length = Math.min(bytes, tape.length);
            fault = 0;
            into.clear();
            int lines = 0;
            advance(tape);
            if (keyword() == FIELD) {
                if (!readField(tape, into)) {
                    return fault;
                }
                lines++;
                advance(tape);
            }
            for (int turn = 0; turn <= TAPE_BYTES && token != END; turn++) {
                boolean good;
                switch (keyword()) {
                    case TABLE:
                        good = readTable(tape, into);
                        break;
                    case GATE:
                        good = readGate(tape, into);
                        break;
                    case BASE:
                        good = readBase(tape, into);
                        break;
                    case NODE:
                        good = readNode(tape, into);
                        break;
                    case WIRE:
                        good = readWire(tape, into);
                        break;
                    default:
                        good = fail(UNFIT);
                        break;
                }
                if (!good) {
                    return fault;
                }
                lines++;
                advance(tape);
            }
            return lines;
        }

        private boolean readField(byte[] tape, Text into) {
            if (!takeNumber(tape, LEAST_FIELD, GREATEST_FIELD)) {
                return false;
            }
            if (!isPrime(value)) {
                return fail(WRONG_NUMBER);
            }
            into.p = value;
            return takeEnd(tape);
        }

        private boolean readTable(byte[] tape, Text into) {
            if (into.tableCount >= MOST_TABLES) {
                return fail(TOO_MANY);
            }
            if (!takeNewName(tape, into)) {
                return false;
            }
            into.addName(value, TABLE, into.tableCount);
            if (!takeNumber(tape, 1, MOST_LEGS)) {
                return false;
            }
            Signature told = into.tables[into.tableCount];
            told.legs = value;
            for (int i = 0; i < told.size(); i++) {
                if (!takeNumber(tape, 0, into.p - 1)) {
                    return false;
                }
                told.values[i] = value;
            }
            into.tableCount++;
            return takeEnd(tape);
        }

        private boolean readGate(byte[] tape, Text into) {
            if (into.tableCount >= MOST_TABLES) {
                return fail(TOO_MANY);
            }
            if (!takeNewName(tape, into)) {
                return false;
            }
            into.addName(value, TABLE, into.tableCount);
            if (!takeNumber(tape, 1, MOST_POINTS)) {
                return false;
            }
            graph.begin(value);
            if (!takeNumber(tape, 1, Math.min(value, MOST_LEGS))) {
                return false;
            }
            Signature told = into.tables[into.tableCount];
            told.legs = value;
            advance(tape);
            for (int edge = 0; edge <= MOST_EDGES && token != SEMICOLON; edge++) {
                if (!readEdge(tape, into.p)) {
                    return false;
                }
                advance(tape);
            }
            graph.fill(told, into.p);
            into.tableCount++;
            return true;
        }

        private boolean readEdge(byte[] tape, int p) {
            if (!isNumber(0, graph.points - 1)) {
                return false;
            }
            if (graph.edgeCount >= MOST_EDGES) {
                return fail(TOO_MANY);
            }
            int point = value;
            if (!takeNumber(tape, 0, graph.points - 1)) {
                return false;
            }
            int other = value;
            if (graph.hasEdge(point, other)) {
                return fail(TWICE);
            }
            if (point == other) {
                return fail(WRONG_NUMBER);
            }
            if (!takeNumber(tape, 1, p - 1)) {
                return false;
            }
            graph.addEdge(point, other, value);
            return true;
        }

        private boolean readBase(byte[] tape, Text into) {
            if (into.baseCount >= MOST_BASES) {
                return fail(TOO_MANY);
            }
            if (!takeNewName(tape, into)) {
                return false;
            }
            into.addName(value, BASE, into.baseCount);
            Base told = into.bases[into.baseCount];
            if (!takeNumber(tape, 0, into.p - 1)) {
                return false;
            }
            told.a = value;
            if (!takeNumber(tape, 0, into.p - 1)) {
                return false;
            }
            told.b = value;
            if (!takeNumber(tape, 0, into.p - 1)) {
                return false;
            }
            told.c = value;
            if (!takeNumber(tape, 0, into.p - 1)) {
                return false;
            }
            told.d = value;
            if (told.determinant(into.p) == 0) {
                return fail(WRONG_NUMBER);
            }
            into.baseCount++;
            return takeEnd(tape);
        }

        private boolean readNode(byte[] tape, Text into) {
            if (into.start.nodeCount >= MOST_NODES) {
                return fail(TOO_MANY);
            }
            if (!takeNewName(tape, into)) {
                return false;
            }
            into.addName(value, NODE, into.start.nodeCount);
            if (!takeKnownName(tape, into, TABLE)) {
                return false;
            }
            into.start.addNode(into.tables[value]);
            return takeEnd(tape);
        }

        private boolean readWire(byte[] tape, Text into) {
            if (into.start.wireCount >= MOST_WIRES) {
                return fail(TOO_MANY);
            }
            if (!takeLeg(tape, into, NONE)) {
                return false;
            }
            int near = value;
            if (!takeLeg(tape, into, near)) {
                return false;
            }
            into.start.addWire(near, value);
            return takeEnd(tape);
        }

        private boolean takeLeg(byte[] tape, Text into, int takenAlready) {
            if (!takeKnownName(tape, into, NODE)) {
                return false;
            }
            int node = value;
            if (!takeNumber(tape, 0, into.start.nodes[node].legs - 1)) {
                return false;
            }
            value += MOST_LEGS * node;
            if (value == takenAlready || into.start.hasWireAt(value)) {
                return fail(TWICE);
            }
            return true;
        }

        private boolean takeNewName(byte[] tape, Text into) {
            advance(tape);
            if (token != WORD || keyword() != NONE) {
                return fail(UNFIT);
            }
            return !into.hasName(value) || fail(TWICE);
        }

        /** The value is the number of what is named then. */
        private boolean takeKnownName(byte[] tape, Text into, int kind) {
            advance(tape);
            if (token != WORD || keyword() != NONE) {
                return fail(UNFIT);
            }
            value = into.numberOf(value, kind);
            return value != NONE || fail(UNKNOWN);
        }

        private boolean takeNumber(byte[] tape, int least, int greatest) {
            advance(tape);
            return isNumber(least, greatest);
        }

        private boolean isNumber(int least, int greatest) {
            if (token != NUMBER) {
                return fail(UNFIT);
            }
            return (value >= least && value <= greatest) || fail(WRONG_NUMBER);
        }

        private boolean takeEnd(byte[] tape) {
            advance(tape);
            return token == SEMICOLON || fail(UNFIT);
        }

        private boolean fail(int kind) {
            fault = -2 - (8 * place + kind);
            return false;
        }

        private int keyword() {
            if (token == WORD) {
                for (int k = 0; k < keywords.length; k++) {
                    if (keywords[k] == value) {
                        return k;
                    }
                }
            }
            return NONE;
        }

        private void advance(byte[] tape) {
            while (at < length && (tape[at] == ' ' || tape[at] == '\n')) {
                at++;
            }
            place = at;
            value = 0;
            if (at >= length) {
                token = END;
            } else if (tape[at] == ';') {
                token = SEMICOLON;
                at++;
            } else if (tape[at] >= '0' && tape[at] <= '9') {
                takeDigits(tape);
            } else {
                takeLetters(tape);
            }
        }

        private void takeDigits(byte[] tape) {
            while (at < length && tape[at] >= '0' && tape[at] <= '9') {
                value = 10 * value + tape[at] - '0';
                at++;
            }
            token = at - place <= LONGEST_NUMBER ? NUMBER : NO_TOKEN;
        }

        private void takeLetters(byte[] tape) {
            while (at < length && tape[at] >= 'a' && tape[at] <= 'z') {
                value = value << BITS_A_LETTER | tape[at] - 'a' + 1;
                at++;
            }
            token = at > place && at - place <= LONGEST_WORD ? WORD : NO_TOKEN;
        }

        private static boolean isPrime(int number) {
            for (int factor = 2; factor < number; factor++) {
                if (number % factor == 0) {
                    return false;
                }
            }
            return number > 1;
        }
    }

    /** The NETS ahead of the last ACTS, in a ring: the oldest one gives way. */
    private static final class Acts {
        int size = 0;
        private int oldest = 0;
        private final Net[] past = new Net[MOST_ACTS];

        Acts() {
            for (int k = 0; k < MOST_ACTS; k++) {
                past[k] = new Net();
            }
        }

        void forget() {
            size = 0;
        }

        void remember(Net net) {
            if (size == MOST_ACTS) {
                oldest = (oldest + 1) % MOST_ACTS;
                size--;
            }
            past[(oldest + size) % MOST_ACTS].copyFrom(net);
            size++;
        }

        void restore(Net net) {
            if (size > 0) {
                size--;
                net.copyFrom(past[(oldest + size) % MOST_ACTS]);
            }
        }
    }

    /** Goes through all settings of WIRES and finds SUM and ways. */
    private static final class Summer {
        int sum = 0;
        int ways = 0;
        private final int[] indexes = new int[MOST_NODES];
        private int chosenCount = 0;
        private final int[] chosen = new int[MOST_WIRES];
        private final Net folded = new Net();

        void goThrough(Net net, int openIndex, int p) {
            setOpenLegs(net, openIndex);
            goThroughSettings(net, net.allNodes(), p);
        }

        // An OPEN LEG stands in one NODE alone: adding up over it there first spares the 2^24 INDEXES.
        void goThroughAll(Net net, int p) {
            folded.copyFrom(net);
            for (int leg = 0; leg < MOST_LEGS * net.nodeCount; leg++) {
                if (net.isOpen(leg)) {
                    folded.nodes[leg / MOST_LEGS].foldLeg(leg % MOST_LEGS, p);
                }
            }
            goThroughSome(folded, folded.allNodes(), p);
        }

        void goThroughSome(Net net, int someNodes, int p) {
            for (int node = 0; node < MOST_NODES; node++) {
                indexes[node] = 0;
            }
            goThroughSettings(net, someNodes, p);
        }

        private void setOpenLegs(Net net, int openIndex) {
            int rest = openIndex;
            for (int node = 0; node < net.nodeCount; node++) {
                indexes[node] = 0;
                for (int leg = 0; leg < net.nodes[node].legs; leg++) {
                    if (!net.hasWireAt(MOST_LEGS * node + leg)) {
                        indexes[node] |= (rest & 1) << leg;
                        rest >>= 1;
                    }
                }
            }
        }

        private void goThroughSettings(Net net, int someNodes, int p) {
            chooseWires(net, someNodes);
            sum = 0;
            ways = 0;
            for (int step = 0; step < 1 << chosenCount; step++) {
                if (step > 0) {
                    turnWire(net, Integer.numberOfTrailingZeros(step));
                }
                int product = productHere(net, someNodes, p);
                sum = mod(sum + product, p);
                ways += product == 0 ? 0 : 1;
            }
        }

        private void chooseWires(Net net, int someNodes) {
            chosenCount = 0;
            for (int wire = 0; wire < net.wireCount; wire++) {
                if (net.isBetween(wire, someNodes)) {
                    chosen[chosenCount] = wire;
                    chosenCount++;
                }
            }
        }

        // As in a Gray code: one WIRE turned a step leads through every setting just once.
        private void turnWire(Net net, int k) {
            if (k >= 0 && k < chosenCount) {
                turnLeg(net.ends[2 * chosen[k]]);
                turnLeg(net.ends[2 * chosen[k] + 1]);
            }
        }

        private void turnLeg(int leg) {
            indexes[leg / MOST_LEGS] ^= 1 << leg % MOST_LEGS;
        }

        private int productHere(Net net, int someNodes, int p) {
            int product = 1;
            for (int node = 0; node < net.nodeCount && product != 0; node++) {
                if ((someNodes >> node & 1) == 1) {
                    product = mod(product * net.nodes[node].values[indexes[node]], p);
                }
            }
            return product;
        }
    }

    /** ORDERS of NODES, by sets of those taken: which NODES are taken tells how many LEGS lead out. */
    private static final class Orders {
        // By a set of NODES: the least WIDTH from it on to the end.
        private final int[] widthFrom = new int[1 << MOST_NODES];

        void weigh(Net net) {
            for (int taken = net.allNodes(); taken >= 0; taken--) {
                widthFrom[taken] = Math.max(legsOut(net, taken), leastBehind(net, taken));
            }
        }

        int leastWidth() {
            return widthFrom[0];
        }

        int bestNode(Net net, int position) {
            int taken = 0;
            int node = NONE;
            for (int turn = 0; turn <= position && turn < net.nodeCount; turn++) {
                node = lowestGoodNode(net, taken);
                taken |= node == NONE ? 0 : 1 << node;
            }
            return node;
        }

        private int lowestGoodNode(Net net, int taken) {
            for (int node = 0; node < net.nodeCount; node++) {
                if ((taken >> node & 1) == 0 && widthFrom[taken | 1 << node] <= widthFrom[0]) {
                    return node;
                }
            }
            return NONE;
        }

        private int leastBehind(Net net, int taken) {
            if (taken == net.allNodes()) {
                return 0;
            }
            int least = MOST_LEGS * MOST_NODES;
            for (int node = 0; node < net.nodeCount; node++) {
                if ((taken >> node & 1) == 0) {
                    least = Math.min(least, widthFrom[taken | 1 << node]);
                }
            }
            return least;
        }

        private static int legsOut(Net net, int taken) {
            int legs = 0;
            for (int node = 0; node < net.nodeCount; node++) {
                legs += (taken >> node & 1) == 1 ? net.nodes[node].legs : 0;
            }
            for (int wire = 0; wire < net.wireCount; wire++) {
                legs -= net.isBetween(wire, taken) ? 2 : 0;
            }
            return legs;
        }
    }
}
