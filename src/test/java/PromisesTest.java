import java.util.NoSuchElementException;

/** For each promise of the document: ordinary inputs, the edges that it names, wrong inputs. */
public final class PromisesTest {
    private static final int NONE = HoloNet.NONE;
    private static final int FAR = Integer.MAX_VALUE;
    private static final int LOW = Integer.MIN_VALUE;
    private static int wrong = 0;
    private static int promise = 0;

    /** P 7. TABLES: a 1 0 0 1, b 0 1 1 0, g (gate) 3 0 0 1, c of three LEGS, d of one. BASES h, i. NODES x, y, z. */
    private static final String CHAIN = "table a 2 1 0 0 1;table b 2 0 1 1 0;gate g 2 2 0 1 3;"
        + "table c 3 0 1 2 3 4 5 6 0;table d 1 2 5;base h 1 1 1 6;base i 1 2 0 1;"
        + "node x a;node y b;node z g;wire x 0 y 0;wire y 1 z 1;";

    private interface Call {
        int of();
    }

    public static void main(String[] args) {
        newObject();
        feed();
        net();
        faultsOfTokens();
        faultsOfLines();
        faultsOfGates();
        faultsOfNumbersAndCounts();
        tables();
        gates();
        parities();
        identities();
        likenessAndRank();
        bases();
        seeking();
        nodesWiresOpenLegs();
        sums();
        withinAndWidth();
        change();
        plugScaleSwap();
        joinCut();
        undo();
        keep();
        count();
        System.out.println(wrong == 0 ? "all promises hold" : wrong + " answers are not as due");
        if (wrong != 0) {
            System.exit(1);
        }
    }

    // ---- helpers

    private static void due(String what, long got, long want) {
        if (got != want) {
            wrong++;
            System.out.println("promise " + promise + ": " + what + " answered " + got + ", due is " + want);
        }
    }

    private static void holds(String what, boolean got) {
        due(what, got ? 1 : 0, 1);
    }

    private static void throwsNone(String what, Call call) {
        boolean thrown = false;
        try {
            call.of();
        } catch (NoSuchElementException e) {
            thrown = true;
        }
        holds(what + " throws NoSuchElementException", thrown);
    }

    private static int tell(HoloNet x, String text) {
        for (int place = 0; place < text.length(); place += 20) {
            int[] n = new int[5];
            for (int k = 0; k < 20; k++) {
                int b = place + k < text.length() ? text.charAt(place + k) : 0;
                n[k / 4] = n[k / 4] << 8 | b;
            }
            x.feed(n[0], n[1], n[2], n[3], n[4]);
        }
        return x.net(text.length());
    }

    private static HoloNet told(String text) {
        HoloNet x = new HoloNet();
        int answer = tell(x, text);
        if (answer < 0) {
            due("net of " + text, answer, 0);
        }
        return x;
    }

    private static void fault(String text, int place, int kind) {
        due("net of \"" + text + "\"", tell(new HoloNet(), text), -2 - (8 * place + kind));
    }

    private static void lines(String text, int lines) {
        due("net of \"" + text + "\"", tell(new HoloNet(), text), lines);
    }

    private static String times(String part, int n) {
        return part.repeat(n);
    }

    private static int[] sums(HoloNet x) {
        int[] answer = new int[1 << x.open(NONE)];
        for (int k = 0; k < answer.length; k++) {
            answer[k] = x.sum(k);
        }
        return answer;
    }

    private static boolean alike(int[] a, int... b) {
        return java.util.Arrays.equals(a, b);
    }

    private static int[] values(HoloNet x, int node) {
        int[] answer = new int[1 << x.node(node, NONE)];
        for (int k = 0; k < answer.length; k++) {
            answer[k] = x.node(node, k);
        }
        return answer;
    }

    // ---- promises 1 to 3

    private static void newObject() {
        promise = 1;
        HoloNet x = new HoloNet();
        int[] counts = {7, 0, 0, 0, 0, 0, 0, 0};
        for (int what = 0; what < 8; what++) {
            due("count(" + what + ")", x.count(what), counts[what]);
        }
        due("NONE", NONE, -1);
        due("parity(0)", x.parity(0), NONE);
        due("sum(0)", x.sum(0), 1);
        holds("no keep", !x.keep(0, true));
    }

    private static void feed() {
        promise = 2;
        HoloNet x = new HoloNet();
        for (int k = 1; k <= 35; k++) {
            due("feed", x.feed(0, 0, 0, 0, 0), 20 * k);
        }
        due("feed beyond 700", x.feed(0, 0, 0, 0, 0), NONE);
        due("bytes", x.count(7), 700);
        due("net(0)", x.net(0), 0);
        due("feed on an empty tape", x.feed(0, 0, 0, 0, 0), 20);
        // The highest byte first, and a number's sign means nothing: 0xFF comes at place 3.
        HoloNet y = new HoloNet();
        y.feed(0x202020FF, -1, -1, -1, -1);
        due("net(20)", y.net(20), -2 - (8 * 3 + 1));
    }

    private static void net() {
        promise = 3;
        HoloNet x = told(CHAIN);
        due("lines", tell(x, CHAIN), 12);
        due("lines with field", tell(x, "field 11;" + CHAIN), 13);
        due("P", x.count(0), 11);
        due("an empty text", tell(x, ""), 0);
        due("P without field", x.count(0), 7);
        due("tables", x.count(1), 0);
        due("blanks", tell(x, " \n \n"), 0);
        tell(x, CHAIN);
        x.keep(1, false);
        x.scale(0, 3);
        x.feed(1, 2, 3, 4, 5);
        due("net(-1)", x.net(-1), NONE);
        due("net(least)", x.net(LOW), NONE);
        due("net(21)", x.net(21), NONE);
        due("the tape stays", x.count(7), 20);
        due("a fault", x.net(20), -2 - 1);
        due("the tape is empty", x.count(7), 0);
        due("all else stays: undoable", x.count(6), 1);
        due("all else stays: value", x.node(0, 0), 3);
        due("all else stays: tables", x.count(1), 5);
        holds("all else stays: kept", x.keep(1, true));
        x.keep(0, false);
        x.scale(0, 2);
        due("a fault behind good lines", tell(x, "field 3;table q 1 0 1;node"), -2 - (8 * 26 + 1));
        due("P stays", x.count(0), 7);
        due("node stays", x.node(0, 0), 2);
        tell(x, CHAIN);
        due("nothing can be undone", x.undo(), NONE);
        holds("nothing is kept", !x.keep(0, true) && !x.keep(1, true));
        due("values anew", x.node(0, 0), 1);
        HoloNet cut = new HoloNet();
        cut.feed(0x7461626c, 0x65206120, 0x31203020, 0x313b7878, 0x78787878);
        due("the first 14 bytes alone", cut.net(14), 1);
    }

    private static void faultsOfTokens() {
        promise = 3;
        fault("?", 0, 1);
        fault("\t", 0, 1);
        fault(" \n!", 2, 1);
        fault("abcdefg a", 0, 1);
        fault("table abcdefg 1 0 0;", 6, 1);
        lines("table abcdef 1 0 0;", 1);
        fault("table a 1 000 0;", 10, 1);
        lines("table a 01 00 06;", 1);
        fault("table a 1 0 0;;", 14, 1);
        fault("Table a 1 0 0;", 0, 1);
        fault("table a 1 0 -1;", 12, 1);
        lines("table a1 0 0;table\nb\n2 0 0 0 0;", 2);
        fault("table", 5, 1);
        fault("table ", 6, 1);
        fault("table a 1 0 0", 13, 1);
        fault("7", 0, 1);
        fault(";", 0, 1);
        fault("a", 0, 1);
        fault("table 1 a", 6, 1);
        fault("table a 1 0 a;", 12, 1);
        fault("table a 1 0;", 11, 1);
        fault("table a 1 0 0 0;", 14, 1);
        fault("table wire 1 0 0;", 6, 1);
        fault("table field 1 0 0;", 6, 1);
        fault("table a 1 0 0;field 7;", 14, 1);
        fault("field 7;field 7;", 8, 1);
        fault("field a;", 6, 1);
        fault("field 7 7;", 8, 1);
        fault("field", 5, 1);
    }

    private static void faultsOfLines() {
        promise = 3;
        String ab = "table a 2 0 0 0 0;base b 1 0 0 1;node n a;";
        int at = ab.length();
        fault(ab + "table a 1 0 0;", at + 6, 2);
        fault(ab + "gate b 1 1;", at + 5, 2);
        fault(ab + "base n 1 0 0 1;", at + 5, 2);
        fault(ab + "node a a;", at + 5, 2);
        fault(ab + "node m m;", at + 7, 3);
        fault(ab + "node m q;", at + 7, 3);
        fault(ab + "node m b;", at + 7, 3);
        fault(ab + "node m n;", at + 7, 3);
        fault(ab + "node m table;", at + 7, 1);
        fault(ab + "node m 1;", at + 7, 1);
        fault(ab + "wire a 0 n 0;", at + 5, 3);
        fault(ab + "wire n 0 q 0;", at + 9, 3);
        fault(ab + "wire n 0 b 0;", at + 9, 3);
        fault(ab + "wire n 2 n 0;", at + 7, 4);
        fault(ab + "wire n 0 n 2;", at + 11, 4);
        fault(ab + "wire n 0 n 0;", at + 11, 2);
        fault(ab + "wire n 0 n;", at + 10, 1);
        lines(ab + "wire n 0 n 1;", 4);
        String wired = ab + "node m a;wire n 0 m 1;";
        int next = wired.length();
        fault(wired + "wire n 0 n 1;", next + 7, 2);
        fault(wired + "wire n 1 m 1;", next + 11, 2);
        fault(wired + "wire n 1 n 0;", next + 11, 2);
        lines(wired + "wire m 0 n 1;", 6);
        fault("base b 1 0 0;", 12, 1);
        fault("base b 1 0 0 1 1;", 15, 1);
    }

    private static void faultsOfGates() {
        promise = 3;
        fault("gate a 0 1;", 7, 4);
        fault("gate a 9 1;", 7, 4);
        fault("gate a 3 4;", 9, 4);
        fault("gate a 8 5;", 9, 4);
        fault("gate a 3 0;", 9, 4);
        fault("gate a 3;", 8, 1);
        lines("gate a 1 1;", 1);
        lines("gate a 8 4;", 1);
        fault("gate a 2 1 2 0 1;", 11, 4);
        fault("gate a 2 1 0 2 1;", 13, 4);
        fault("gate a 2 1 0 0 1;", 13, 4);
        fault("gate a 2 1 0 1 0;", 15, 4);
        fault("gate a 2 1 0 1 7;", 15, 4);
        fault("gate a 2 1 0 1;", 14, 1);
        fault("gate a 2 1 0;", 12, 1);
        fault("gate a 2 1 0 1 1 0 1 1;", 19, 2);
        fault("gate a 2 1 0 1 1 1 0 1;", 19, 2);
        String twelve = "gate a 8 4 0 1 1 0 2 1 0 3 1 0 4 1 0 5 1 0 6 1 0 7 1 1 2 1 1 3 1 1 4 1 1 5 1 1 6 1";
        lines(twelve + ";", 1);
        fault(twelve + " 1 7 1;", twelve.length() + 1, 5);
        fault(twelve + " 8 7 1;", twelve.length() + 1, 4);
        fault(twelve + " a", twelve.length() + 1, 1);
    }

    private static void faultsOfNumbersAndCounts() {
        promise = 3;
        int[] good = {3, 5, 7, 11, 13, 17, 19, 23, 29, 31, 37, 41, 43, 47, 53, 59, 61, 67, 71, 73, 79, 83, 89, 97};
        for (int p = 0; p < 100; p++) {
            if (java.util.Arrays.binarySearch(good, p) >= 0) {
                lines("field " + p + ";", 1);
            } else {
                fault("field " + p + ";", 6, 4);
            }
        }
        fault("table a 0 1;", 8, 4);
        fault("table a 5 1;", 8, 4);
        fault("table a 1 7 0;", 10, 4);
        fault("field 3;table a 1 2 3;", 20, 4);
        lines("field 97;table a 1 96 0;", 2);
        fault("base b 7 0 0 1;", 7, 4);
        fault("base b 1 1 1 1;", 13, 4);
        fault("base b 3 5 2 1;", 13, 4);
        fault("base b 1 1 1 7;", 13, 4);
        StringBuilder text = new StringBuilder();
        for (int k = 0; k < 8; k++) {
            text.append(k % 2 == 0 ? "table " : "gate ").append((char) ('a' + k)).append(k % 2 == 0 ? " 1 0 0;" : " 1 1;");
        }
        lines(text.toString(), 8);
        fault(text + "gate z 1 1;", text.length(), 5);
        fault(text + "table z 1 0 0;", text.length(), 5);
        StringBuilder bases = new StringBuilder();
        for (int k = 0; k < 5; k++) {
            bases.append("base ").append((char) ('a' + k)).append(" 1 0 0 1;");
        }
        fault(bases + "base", bases.length(), 5);
        StringBuilder nodes = new StringBuilder("table t 4" + times(" 0", 16) + ";");
        for (int k = 0; k < 6; k++) {
            nodes.append("node ").append((char) ('a' + k)).append(" t;");
        }
        fault(nodes + "node z t;", nodes.length(), 5);
        StringBuilder wires = new StringBuilder(nodes);
        for (int k = 0; k < 10; k++) {
            char node = (char) ('a' + k / 2);
            wires.append("wire ").append(node).append(k % 2 == 0 ? " 0 " : " 2 ").append(node).append(k % 2 == 0 ? " 1;" : " 3;");
        }
        lines(wires.toString(), 17);
        fault(wires + "wire f 0 f 1;", wires.length(), 5);
    }

    // ---- promises 4 to 10

    private static void tables() {
        promise = 4;
        HoloNet x = told(CHAIN);
        due("table(3, -1)", x.table(3, NONE), 3);
        for (int i = 0; i < 8; i++) {
            due("table(3, " + i + ")", x.table(3, i), i % 7);
        }
        due("table(3, 8)", x.table(3, 8), -2);
        due("table(3, -2)", x.table(3, -2), -2);
        due("table(5, 0)", x.table(5, 0), -2);
        due("table(5, -1)", x.table(5, NONE), -2);
        due("table(-1, 0)", x.table(-1, 0), -2);
        due("table(far)", x.table(FAR, FAR), -2);
    }

    private static void gates() {
        promise = 4;
        // A square 0-1-2-3 with weights 2, 3, 4, 5 (5 between 3 and 0), all points legs.
        HoloNet x = told("field 97;gate s 4 4 0 1 2 1 2 3 2 3 4 3 0 5;gate e 1 1;gate p 3 1 0 1 5 1 2 6;");
        int[] square = {2 * 4 + 3 * 5, 0, 0, 4, 0, 0, 5, 0, 0, 3, 0, 0, 2, 0, 0, 1};
        for (int i = 0; i < 16; i++) {
            due("square at " + i, x.table(0, i), square[i]);
        }
        due("one point", x.table(1, 0), 0);
        due("no point left", x.table(1, 1), 1);
        due("a path, odd", x.table(2, 0), 0);
        due("a path without its first point", x.table(2, 1), 6);
        due("legs", x.table(2, NONE), 1);
        HoloNet y = told("gate k 4 1 0 1 6 2 3 6 0 2 6 1 3 6 0 3 6 1 2 6;");
        due("modulo P", y.table(0, 0), 3);
        holds("gates are made", x.made(0) == 1 && x.made(1) == 1 && y.made(0) == 1);
    }

    private static void parities() {
        promise = 5;
        HoloNet x = told("table a 1 1 0;table b 1 0 1;table c 1 0 0;table d 1 1 1;table e 3 1 0 0 2 0 3 4 0;"
            + "table f 3 0 1 0 0 0 0 0 1;");
        int[] want = {0, 1, 2, 3, 0, 1};
        for (int t = 0; t < 6; t++) {
            due("parity(" + t + ")", x.parity(t), want[t]);
        }
        due("parity(6)", x.parity(6), NONE);
        due("parity(-1)", x.parity(-1), NONE);
        promise = 7;
        int[] made = {1, 1, 1, 0, 1, 1};
        for (int t = 0; t < 6; t++) {
            due("made(" + t + ")", x.made(t), made[t]);
        }
        due("made(6)", x.made(6), NONE);
        due("made(-1)", x.made(-1), NONE);
        promise = 8;
        HoloNet y = told("table a 2 1 2 2 3;table b 2 1 2 3 3;table c 3 1 2 2 4 2 4 4 5;table d 3 1 2 2 4 2 4 3 5;table e 1 3 4;");
        int[] plain = {1, 0, 1, 0, 1};
        for (int t = 0; t < 5; t++) {
            due("plain(" + t + ")", y.plain(t), plain[t]);
        }
        due("plain(5)", y.plain(5), NONE);
        HoloNet four = told("table a 4 1 2 2 3 2 3 3 4 2 3 3 4 3 4 4 5;table b 4 1 2 2 3 2 3 3 4 2 3 3 4 3 4 5 5;");
        holds("four legs", four.plain(0) == 1 && four.plain(1) == 0);
        due("plain(-1)", y.plain(-1), NONE);
    }

    private static void identities() {
        promise = 6;
        // 2*3 - 4*5 + 6*7 - 8*9 = -44; of the odd one 1*2 - 3*4 + 5*6 - 7*8 = -36.
        HoloNet x = told("field 97;table e 4 2 0 0 4 0 6 8 0 0 9 7 0 5 0 0 3;"
            + "table o 4 0 1 3 0 5 0 0 8 7 0 0 6 0 4 2 0;table s 3 0 0 0 0 0 0 0 0;"
            + "table m 4 2 1 3 4 5 6 8 8 7 9 7 6 5 4 2 3;table r 4 1 0 0 0 0 0 0 0 0 0 0 0 0 0 0 0;");
        due("even rule", x.identity(0, false), 97 - 44);
        due("odd rule of an even one", x.identity(0, true), 0);
        due("odd rule", x.identity(1, true), 97 - 36);
        due("even rule of an odd one", x.identity(1, false), 0);
        due("both, even", x.identity(3, false), 97 - 44);
        due("both, odd", x.identity(3, true), 97 - 36);
        due("three legs", x.identity(2, false), -2);
        due("none such", x.identity(5, false), NONE);
        due("none such", x.identity(-1, true), NONE);
        promise = 7;
        due("even, its rule not 0", x.made(0), 0);
        due("odd, its rule not 0", x.made(1), 0);
        due("even, its rule 0", x.made(4), 1);
        HoloNet y = told("table a 4" + times(" 1", 16) + ";table n 4" + times(" 0", 16) + ";");
        due("rules 0, parity none", y.made(0), 0);
        due("nil", y.made(1), 1);
        due("even rule of ones", y.identity(0, false), 0);
    }

    private static void likenessAndRank() {
        promise = 9;
        HoloNet x = told("table a 2 1 2 3 0;table b 2 3 6 2 0;table c 2 3 6 2 1;table n 2 0 0 0 0;table s 1 1 2;");
        due("like(1, 0)", x.like(1, 0), 3);
        due("like(0, 1)", x.like(0, 1), 5);
        due("like(2, 0)", x.like(2, 0), 0);
        due("like(0, 0)", x.like(0, 0), 1);
        due("like(3, 3)", x.like(3, 3), 1);
        due("like(3, 0): f is never 0", x.like(3, 0), 0);
        due("like(0, 3)", x.like(0, 3), 0);
        due("like(0, 4)", x.like(0, 4), 0);
        due("like(4, 0)", x.like(4, 0), 0);
        due("like(0, 5)", x.like(0, 5), NONE);
        due("like(5, 0)", x.like(5, 0), NONE);
        due("like(-1, 0)", x.like(-1, 0), NONE);
        due("like(0, -1)", x.like(0, -1), NONE);
        promise = 10;
        due("rank(0, 1)", x.rank(0, 1), 2);
        due("rank(3, 1)", x.rank(3, 1), 0);
        due("rank(3, 0)", x.rank(3, 0), 0);
        due("rank(0, 0)", x.rank(0, 0), 1);
        due("rank(0, 3)", x.rank(0, 3), 1);
        due("rank(0, 4)", x.rank(0, 4), NONE);
        due("rank(0, -1)", x.rank(0, -1), NONE);
        due("rank(5, 0)", x.rank(5, 0), NONE);
        due("rank(-1, 0)", x.rank(-1, 0), NONE);
        // Rows (1, 2), (4, 1): 1 - 8 is 0 modulo 7 alone.
        HoloNet y = told("table a 2 1 2 4 1;table i 4 1 0 0 0 0 1 0 0 0 0 1 0 0 0 0 0;table t 3 1 0 0 0 0 0 0 1;");
        due("modulo 7", y.rank(0, 1), 1);
        due("three of four", y.rank(1, 3), 3);
        due("by the others", y.rank(1, 12), 3);
        due("by other legs", y.rank(1, 5), 2);
        due("rank(2, 1)", y.rank(2, 1), 2);
        due("rank(2, 6)", y.rank(2, 6), 2);
        due("rank(2, 7)", y.rank(2, 7), 1);
        due("rank(2, 8)", y.rank(2, 8), NONE);
    }

    // ---- promises 11 to 15

    private static void bases() {
        promise = 11;
        HoloNet x = told(CHAIN + "base j 2 3 4 5;");
        int[] want = {2, 3, 4, 5, 5};
        for (int what = 0; what < 5; what++) {
            due("base(2, " + what + ")", x.base(2, what), want[what]);
        }
        throwsNone("base(2, 5)", () -> x.base(2, 5));
        throwsNone("base(2, -1)", () -> x.base(2, -1));
        throwsNone("base(3, 0)", () -> x.base(3, 0));
        throwsNone("base(-1, 0)", () -> x.base(-1, 0));
        promise = 12;
        // d is 2 5: by j 2*2 + 3*5 = 19, 4*2 + 5*5 = 33.
        due("based(4, 2, 0)", x.based(4, 2, 0), 19 % 7);
        due("based(4, 2, 1)", x.based(4, 2, 1), 33 % 7);
        // a is 1 0 0 1: at bits s, t it is m(s,0) m(t,0) + m(s,1) m(t,1).
        due("based(0, 2, 0)", x.based(0, 2, 0), 13 % 7);
        due("based(0, 2, 1)", x.based(0, 2, 1), 23 % 7);
        due("based(0, 2, 3)", x.based(0, 2, 3), 41 % 7);
        due("based(0, 2, 4)", x.based(0, 2, 4), NONE);
        due("based(0, 2, -1)", x.based(0, 2, -1), NONE);
        due("based(0, 3, 0)", x.based(0, 3, 0), NONE);
        due("based(0, -1, 0)", x.based(0, -1, 0), NONE);
        due("based(5, 0, 0)", x.based(5, 0, 0), NONE);
        due("based(-1, 0, 0)", x.based(-1, 0, 0), NONE);
        due("the table stays", x.table(0, 0), 1);
        promise = 13;
        due("fits(0, 0)", x.fits(0, 0), 1);
        due("fits(0, 1)", x.fits(0, 1), 0);
        due("fits(0, 3)", x.fits(0, 3), NONE);
        due("fits(0, -1)", x.fits(0, -1), NONE);
        due("fits(5, 0)", x.fits(5, 0), NONE);
        due("fits(-1, 0)", x.fits(-1, 0), NONE);
        promise = 14;
        HoloNet y = told("table o 2 1 1 1 1;table k 2 1 2 3 0;base a 1 0 0 1;base b 1 1 1 6;base c 1 6 1 1;");
        due("first(0)", y.first(0), 1);
        due("first(1)", y.first(1), -2);
        due("first(2)", y.first(2), NONE);
        due("first(-1)", y.first(-1), NONE);
        due("without bases", told("table o 2 1 1 1 1;").first(0), -2);
    }

    private static void seeking() {
        promise = 15;
        HoloNet x = told("field 5;table o 1 1 1;table n 1 0 0;table h 1 1 4;table a 2 1 0 0 1;table d 2 1 3 3 3;");
        // (2, x + y): the second one must be 0.
        due("seek(0)", x.seek(0), 5 * 1 + 4);
        due("seek(1): the first of all", x.seek(1), 1);
        due("seek(2): (0, x - y)", x.seek(2), 1);
        due("seek again", x.seek(0), 9);
        due("seek(3): 2, x + y, x + y, x x + y y", x.seek(3), 9);
        // The sum is 0, so ODD is left alone: x x + 6 x y + 3 y y must be 0 as well, and by x 0 it isn't.
        due("seek(4)", x.seek(4), oddAlone(5));
        due("seek(5)", x.seek(5), NONE);
        due("seek(-1)", x.seek(-1), NONE);
        due("another text is sought anew", tell(x, "field 7;table o 1 1 1;"), 2);
        due("seek(0) by 7", x.seek(0), 7 * 1 + 6);
        due("and a third one", tell(x, "field 11;table o 1 1 1;"), 2);
        due("seek(0) by 11", x.seek(0), 11 * 1 + 10);
        HoloNet y = told("field 97;table a 2 1 0 0 1;table k 2 1 2 3 0;");
        due("seek(0) by 97", y.seek(0), 97 * 1 + 96);
        // Its sum is 6, so EVEN is left alone: by leg 0 4 x + 2 y, by leg 1 3 x + 3 y can't both be 0.
        due("seek(1) by 97", y.seek(1), -2);
    }

    private static int oddAlone(int p) {
        for (int code = 0; code < p * p; code++) {
            int x = code / p;
            int y = code % p;
            boolean odd = (x * x + 6 * x * y + 3 * y * y) % p == 0;
            boolean nil = (4 * x + 6 * y) % p == 0;
            if (x != y && (odd || nil)) {
                return code;
            }
        }
        return -2;
    }

    // ---- promises 16 to 23

    private static void nodesWiresOpenLegs() {
        promise = 16;
        HoloNet x = told(CHAIN + "node w c;wire w 2 x 1;");
        holds("node z has the gate's values", alike(values(x, 2), 3, 0, 0, 1));
        due("node(3, -1)", x.node(3, NONE), 3);
        due("node(3, 6)", x.node(3, 6), 6);
        due("node(3, 8)", x.node(3, 8), -2);
        due("node(3, -2)", x.node(3, -2), -2);
        due("node(4, -1)", x.node(4, NONE), -2);
        due("node(4, 0)", x.node(4, 0), -2);
        due("node(-1, 0)", x.node(-1, 0), -2);
        promise = 17;
        int[] want = {3, 2, 0, 1};
        for (int what = 0; what < 4; what++) {
            due("wire(2, " + what + ")", x.wire(2, what), want[what]);
        }
        throwsNone("wire(2, 4)", () -> x.wire(2, 4));
        throwsNone("wire(2, -1)", () -> x.wire(2, -1));
        throwsNone("wire(3, 0)", () -> x.wire(3, 0));
        throwsNone("wire(-1, 0)", () -> x.wire(-1, 0));
        promise = 18;
        due("open(-1)", x.open(NONE), 3);
        due("open(0)", x.open(0), 20);
        due("open(1)", x.open(1), 30);
        due("open(2)", x.open(2), 31);
        due("open(3)", x.open(3), -2);
        due("open(-2)", x.open(-2), -2);
        due("none open", new HoloNet().open(NONE), 0);
        due("none open", new HoloNet().open(0), -2);
    }

    private static void sums() {
        promise = 19;
        // Two nodes q (1 2 3 4, legs r, s): sum over the wire r-s of q(r, 0..) q(.., s).
        HoloNet x = told("field 97;table q 2 1 2 3 4;node a q;node b q;wire a 0 b 1;");
        // open: leg 1 of a (low), leg 0 of b: sum over w of q[w + 2 low] q[high + 2 w].
        holds("sums", alike(sums(x), 1 + 2 * 3, 3 + 4 * 3, 2 + 2 * 4, 3 * 2 + 4 * 4));
        due("sum(4)", x.sum(4), NONE);
        due("sum(-1)", x.sum(-1), NONE);
        promise = 20;
        due("total()", x.total(), 7 + 15 + 10 + 22);
        due("total() without nodes", new HoloNet().total(), 1);
        promise = 21;
        due("ways(0)", x.ways(0), 2);
        due("ways(4)", x.ways(4), NONE);
        due("ways(-1)", x.ways(-1), NONE);
        promise = 19;
        HoloNet loop = told("table q 3 1 2 3 4 5 6 0 1;node a q;wire a 2 a 0;");
        // Leg 1 alone is open: q[0] + q[5], q[2] + q[7].
        holds("a wire of one node", alike(sums(loop), 0, 4));
        due("total", loop.total(), 4);
        due("ways, the sum being 0", loop.ways(0), 2);
        HoloNet none = told("table a 2 1 0 0 1;node x a;node y a;wire x 0 y 0;wire x 1 y 1;");
        holds("no open leg", alike(sums(none), 2));
        due("ways of two wires", none.ways(0), 2);
        due("sum(1)", none.sum(1), NONE);
        HoloNet wide = told("table q 4" + times(" 1", 16) + ";node a q;node b q;node c q;node d q;node e q;node f q;");
        due("24 open legs", wide.open(NONE), 24);
        due("sum at the last index", wide.sum((1 << 24) - 1), 1);
        due("sum behind it", wide.sum(1 << 24), NONE);
        due("ways", wide.ways(12345), 1);
        promise = 20;
        due("2^24 modulo 7", wide.total(), (1 << 24) % 7);
    }

    private static void withinAndWidth() {
        promise = 22;
        HoloNet x = told("field 97;table q 2 1 2 3 4;node a q;node b q;node c q;wire a 0 b 1;wire b 0 c 0;wire c 1 a 1;");
        due("none", x.within(0), 1);
        due("a alone", x.within(1), 1);
        due("a and b", x.within(3), 1 + 2 * 3);
        due("b and c", x.within(6), 1 + 2 * 2);
        due("all", x.within(7), x.sum(0));
        due("within(8)", x.within(8), NONE);
        due("within(-1)", x.within(-1), NONE);
        HoloNet loop = told("table q 3 1 2 3 4 5 6 0 1;node a q;wire a 2 a 1;");
        due("a wire of one node", loop.within(1), 1 + 0);
        promise = 23;
        due("three in a ring", x.width(0), 2);
        holds("the first by numbers", x.width(1) == 0 && x.width(2) == 1 && x.width(3) == 2);
        due("width(4)", x.width(4), NONE);
        due("width(-1)", x.width(-1), NONE);
        due("without nodes", new HoloNet().width(0), 0);
        due("without nodes", new HoloNet().width(1), NONE);
        // A chain a - c - b, told out of order: a (1 leg) and b at the ends.
        HoloNet chain = told("table e 1 1 1;table q 2 1 2 3 4;node a e;node b e;node c q;wire a 0 c 0;wire b 0 c 1;");
        due("the chain's width", chain.width(0), 1);
        holds("a, c, b", chain.width(1) == 0 && chain.width(2) == 2 && chain.width(3) == 1);
        HoloNet star = told("table s 4" + times(" 1", 16) + ";table e 1 1 1;node a s;node b e;node c e;node d e;node f e;"
            + "wire a 0 b 0;wire a 1 c 0;wire a 2 d 0;wire a 3 f 0;");
        due("two leaves first, then the middle", star.width(0), 2);
        holds("its order", star.width(1) == 1 && star.width(2) == 2 && star.width(3) == 0 && star.width(4) == 3
            && star.width(5) == 4);
        due("a loop's legs lead nowhere", loop.width(0), 1);
        due("open legs count at the end", told("table q 2 1 1 1 1;node a q;node b q;node c q;").width(0), 6);
    }

    // ---- promises 24 to 32

    private static void change() {
        promise = 24;
        HoloNet x = told("field 11;table q 2 1 2 3 4;table r 3 1 0 5 2 7 8 9 10;base m 2 3 4 5;base n 0 1 3 7;"
            + "node a q;node b r;node c r;wire a 0 b 1;wire b 2 c 0;wire c 1 c 2;");
        int[] before = sums(x);
        int total = x.total();
        holds("change(0, 0)", x.change(0, 0));
        // Leg 0 of a by ((2, 3), (4, 5)).
        holds("the leg told first", alike(values(x, 0), 8, 14 % 11, 18 % 11, 32 % 11));
        // ad - bc is -2, its inverse modulo 11 is 5: ((5, -4), (-3, 2)) times 5 is ((3, 2), (7, 10)).
        holds("the other leg", x.node(1, 0) == (3 + 2 * 5) % 11 && x.node(1, 2) == (7 + 10 * 5) % 11
            && x.node(1, 5) == (8 * 3 + 10 * 2) % 11 && x.node(1, 7) == (8 * 7 + 10 * 10) % 11);
        holds("no sum changes", alike(sums(x), before) && x.total() == total);
        holds("change(2, 1), of one node", x.change(2, 1));
        holds("change(1, 1)", x.change(1, 1));
        holds("no sum changes", alike(sums(x), before));
        due("acts", x.count(6), 3);
        holds("none such", !x.change(3, 0) && !x.change(-1, 0) && !x.change(0, 2) && !x.change(0, -1));
        due("these are no acts", x.count(6), 3);
        due("bases stay", x.base(0, 1), 3);
    }

    private static void plugScaleSwap() {
        promise = 25;
        HoloNet x = told(CHAIN + "node w c;");
        holds("plug(0, 2)", x.plug(0, 2));
        holds("values", alike(values(x, 0), 3, 0, 0, 1));
        holds("not as many legs", !x.plug(0, 3) && !x.plug(0, 4) && !x.plug(3, 0));
        holds("none such", !x.plug(4, 0) && !x.plug(-1, 0) && !x.plug(0, 5) && !x.plug(0, -1));
        due("acts", x.count(6), 1);
        promise = 26;
        holds("scale(0, 6)", x.scale(0, 6));
        holds("values", alike(values(x, 0), 4, 0, 0, 6));
        holds("the table stays", x.table(2, 0) == 3);
        holds("scale(0, 1)", x.scale(0, 1));
        holds("others", !x.scale(0, 0) && !x.scale(0, 7) && !x.scale(0, -1) && !x.scale(4, 1) && !x.scale(-1, 1));
        due("acts", x.count(6), 3);
        promise = 27;
        holds("swap(3, 0, 2)", x.swap(3, 0, 2));
        holds("values", alike(values(x, 3), 0, 4, 2, 6, 1, 5, 3, 0));
        holds("swap(3, 1, 0)", x.swap(3, 1, 0));
        holds("values", alike(values(x, 3), 0, 2, 4, 6, 1, 3, 5, 0));
        holds("others", !x.swap(3, 1, 1) && !x.swap(3, 0, 3) && !x.swap(3, 3, 0) && !x.swap(3, -1, 0) && !x.swap(3, 0, -1)
            && !x.swap(4, 0, 1) && !x.swap(-1, 0, 1));
        due("acts", x.count(6), 5);
        due("wires stay", x.wire(0, 1), 0);
    }

    private static void joinCut() {
        promise = 28;
        HoloNet x = told("table q 4" + times(" 1", 16) + ";node a q;node b q;node c q;node d q;node e q;node f q;");
        due("join", x.join(1, 3, 0, 2), 0);
        holds("its ends as told", x.wire(0, 0) == 1 && x.wire(0, 1) == 3 && x.wire(0, 2) == 0 && x.wire(0, 3) == 2);
        due("a leg with a wire", x.join(1, 3, 2, 0), NONE);
        due("a leg with a wire", x.join(2, 0, 0, 2), NONE);
        due("one and the same", x.join(2, 0, 2, 0), NONE);
        due("of one node", x.join(2, 0, 2, 1), 1);
        due("no such node", x.join(6, 0, 2, 2), NONE);
        due("no such node", x.join(2, 2, 6, 0), NONE);
        due("no such node", x.join(-1, 0, 2, 2), NONE);
        due("no such leg", x.join(3, 4, 2, 2), NONE);
        due("no such leg", x.join(3, -1, 2, 2), NONE);
        due("no such leg", x.join(2, 2, 3, 4), NONE);
        due("acts", x.count(6), 2);
        int[][] more = {{0, 0, 1, 0}, {0, 1, 1, 1}, {0, 3, 1, 2}, {2, 2, 2, 3}, {3, 0, 4, 0}, {3, 1, 4, 1}, {3, 2, 4, 2}, {3, 3, 4, 3}};
        for (int k = 0; k < 8; k++) {
            due("join", x.join(more[k][0], more[k][1], more[k][2], more[k][3]), 2 + k);
        }
        due("10 are there", x.join(5, 0, 5, 1), NONE);
        due("open", x.open(NONE), 4);
        promise = 29;
        due("cut(2)", x.cut(2), 9);
        holds("those behind it have one less", x.wire(2, 1) == 1 && x.wire(8, 1) == 3 && x.wire(1, 0) == 2);
        due("open again", x.open(0), 0);
        due("open again", x.open(1), 10);
        due("cut(9)", x.cut(9), NONE);
        due("cut(-1)", x.cut(-1), NONE);
        due("cut the last one", x.cut(8), 8);
        due("join behind all", x.join(5, 0, 5, 1), 8);
    }

    private static void undo() {
        promise = 30;
        HoloNet x = told(CHAIN);
        x.change(1, 1);
        int changed = x.node(2, 2);
        x.plug(0, 1);
        x.scale(0, 5);
        x.swap(2, 0, 1);
        x.cut(0);
        x.join(1, 0, 2, 0);
        due("undo join", x.undo(), 5);
        due("wires", x.count(4), 1);
        due("undo cut", x.undo(), 4);
        holds("the wire has its number again", x.wire(0, 0) == 0 && x.wire(1, 0) == 1);
        due("undo swap", x.undo(), 3);
        due("swapped back", x.node(2, 2), changed);
        due("undo scale", x.undo(), 2);
        holds("not scaled", alike(values(x, 0), 0, 1, 1, 0));
        due("undo plug", x.undo(), 1);
        holds("not plugged", alike(values(x, 0), 1, 0, 0, 1));
        due("undo change", x.undo(), 0);
        holds("not changed", alike(values(x, 2), 3, 0, 0, 1));
        due("none can be", x.undo(), NONE);
        for (int k = 0; k < 15; k++) {
            x.scale(1, 3);
        }
        due("12 can be", x.count(6), 12);
        for (int k = 11; k >= 0; k--) {
            due("undo", x.undo(), k);
        }
        due("no more", x.undo(), NONE);
        due("three are left", x.node(1, 1), 27 % 7);
        x.scale(1, 2);
        due("an act anew", x.undo(), 0);
    }

    private static void keep() {
        promise = 31;
        HoloNet x = told(CHAIN);
        holds("nothing is in it", !x.keep(0, true) && !x.keep(1, true));
        holds("none such", !x.keep(2, false) && !x.keep(-1, false) && !x.keep(2, true) && !x.keep(-1, true));
        x.scale(0, 2);
        holds("laid", x.keep(0, false));
        due("still undoable", x.count(6), 1);
        x.cut(0);
        x.scale(0, 2);
        holds("laid", x.keep(1, false));
        x.feed(0, 0, 0, 0, 0);
        holds("gone back", x.keep(0, true));
        holds("as it was", x.node(0, 0) == 2 && x.count(4) == 2);
        due("nothing can be undone", x.undo(), NONE);
        due("but the tape", x.count(7), 20);
        x.scale(0, 2);
        holds("gone to the other", x.keep(1, true));
        holds("as it was", x.node(0, 0) == 4 && x.count(4) == 1);
        due("nothing can be undone", x.count(6), 0);
        holds("once more", x.keep(0, true) && x.node(0, 0) == 2);
        x.scale(0, 3);
        holds("laid anew", x.keep(0, false));
        due("undone behind it", x.undo(), 0);
        holds("the keep stays", x.keep(0, true) && x.node(0, 0) == 6);
        HoloNet empty = new HoloNet();
        holds("a new object can be kept", empty.keep(0, false) && empty.keep(0, true));
    }

    private static void count() {
        promise = 32;
        HoloNet x = told("field 31;" + CHAIN);
        x.scale(0, 30);
        x.feed(0, 0, 0, 0, 0);
        x.feed(0, 0, 0, 0, 0);
        int[] want = {31, 5, 2, 3, 2, 2, 1, 40};
        for (int what = 0; what < 8; what++) {
            due("count(" + what + ")", x.count(what), want[what]);
        }
        due("count(8)", x.count(8), NONE);
        due("count(-1)", x.count(-1), NONE);
        due("count(far)", x.count(FAR), NONE);
        due("count(low)", x.count(LOW), NONE);
    }
}
