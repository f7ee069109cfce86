/** What parts 2 and 3 of the document's Terms tell of the NET, and promises 16 to 23: a test for each sentence with a boundary. */
public final class NetEdgesTest extends Checks {
    /** P 97; NODE 0 has four LEGS, NODE 1 two, NODE 2 one; WIRES 2.0 - 0.3, 0.1 - 1.1; OPEN are 0.0, 0.2, 1.0. */
    private static final String THREE = "field 97;" + table("t", 1, 2, 3, 4, 5, 6, 7, 8, 9, 10, 11, 12, 13, 14, 15, 16)
        + table("q", 20, 30, 40, 50) + table("e", 60, 70) + "node a t;node b q;node c e;wire c 0 a 3;wire a 1 b 1;";
    private static final int[] NO_NODE = {-1, -2, 3, 4, 6};
    private static final int[] NO_WIRE = {-1, -2, 2, 3, 10};

    public static void main(String[] args) {
        terms();
        parts();
        sumsOfNets();
        orders();
        end();
    }

    private static void terms() {
        sentence("Terms 2", "A NODE has VALUES of its own: at first its TABLE's.", NetEdgesTest::valuesOfItsOwn);
        sentence("Terms 2", "NET: a setting of all WIRES to 0 or 1", NetEdgesTest::wiresAreZeroOrOne);
        sentence("Terms 2", "and of OPEN LEGS (those without a WIRE; by NODES, then LEGS)", NetEdgesTest::openByNodesThenLegs);
        sentence("Terms 2", "by an INDEX (the first OPEN LEG the lowest bit)", NetEdgesTest::firstOpenIsLowest);
        sentence("Terms 2", "PRODUCT of all NODES' VALUES at their LEGS' bits.", NetEdgesTest::productOfAll);
        sentence("Terms 2", "SUM at an INDEX: of all settings of WIRES (1 without NODES).", NetEdgesTest::sumOfAllSettings);
    }

    private static void parts() {
        sentence("Promise 16", "The VALUE of a NODE at an INDEX of its LEGS", NetEdgesTest::valueOfNode);
        sentence("Promise 16", "how many LEGS (i NONE)", NetEdgesTest::legsOfNode);
        sentence("Promise 16", "-2: none such.", NetEdgesTest::noSuchNode);
        sentence("Promise 17", "Of a WIRE, what 0, 1: NODE, LEG told first, 2, 3: the other ones", NetEdgesTest::partsOfWire);
        sentence("Promise 17", "NoSuchElementException: others", NetEdgesTest::otherPartsOfWire);
        sentence("Promise 17", "none such.", NetEdgesTest::noSuchWire);
        sentence("Promise 18", "The k-th OPEN LEG, as 10 times its NODE and itself", NetEdgesTest::openLegsTold);
        sentence("Promise 18", "how many (k NONE)", NetEdgesTest::howManyOpen);
        sentence("Promise 18", "-2: none such.", NetEdgesTest::noSuchOpenLeg);
    }

    private static void sumsOfNets() {
        sentence("Promise 19", "SUM at an INDEX of OPEN LEGS", NetEdgesTest::sumAtIndex);
        sentence("Promise 19", "NONE: none such.", NetEdgesTest::sumAtNone);
        sentence("Promise 20", "SUMS at all INDEXES together.", NetEdgesTest::total);
        sentence("Promise 21", "How many settings of WIRES have, at an INDEX, a PRODUCT that isn't 0", NetEdgesTest::ways);
        sentence("Promise 21", "NONE: none such.", NetEdgesTest::waysAtNone);
        sentence("Promise 22", "SUM of some NODES (bits) and WIRES between them alone", NetEdgesTest::within);
        sentence("Promise 22", "all other LEGS of theirs 0", NetEdgesTest::otherLegsAreZero);
        sentence("Promise 22", "NONE: none such.", NetEdgesTest::withinNone);
    }

    private static void orders() {
        sentence("Terms 3", "ORDER of NODES: taken one behind the other", NetEdgesTest::eachNodeOnce);
        sentence("Terms 3", "its WIDTH: the most LEGS, behind each taking", NetEdgesTest::mostBehindEachTaking);
        sentence("Terms 3", "of those taken that are OPEN or lead by a WIRE to one that isn't taken.", NetEdgesTest::legsThatCount);
        sentence("Terms 3", "The best ORDER: of the least WIDTH", NetEdgesTest::leastWidth);
        sentence("Terms 3", "of like ones the first by numbers.", NetEdgesTest::firstByNumbers);
        sentence("Promise 23", "The best ORDER, what 0: its WIDTH, 1 and on: its NODE what less 1", NetEdgesTest::widthAndOrder);
        sentence("Promise 23", "NONE: others, none.", NetEdgesTest::widthOfOthers);
        sentence("Promise 23", "(0 without NODES.)", NetEdgesTest::widthWithoutNodes);
    }

    // ---- terms

    private static void valuesOfItsOwn() {
        HoloNet x = told(table("a", 1, 2) + "gate g 2 2 0 1 5;node m a;node n a;node k g;");
        row("at first", nodeValues(x, 0), 1, 2);
        row("of a gate", nodeValues(x, 2), 5, 0, 0, 1);
        x.scale(0, 3);
        row("scaled", nodeValues(x, 0), 3, 6);
        row("another one of this TABLE", nodeValues(x, 1), 1, 2);
        row("the TABLE", tableValues(x, 0), 1, 2);
        x.plug(1, 0);
        row("plugged anew", nodeValues(x, 1), 1, 2);
    }

    private static void wiresAreZeroOrOne() {
        // One NODE at each end of the WIRE: 2 * 5 with 0, 3 * 7 with 1.
        String ends = "field 97;" + table("a", 2, 3) + table("b", 5, 7) + table("z", 0, 0);
        due("both settings", told(ends + "node n a;node m b;wire n 0 m 0;").sum(0), 31);
        due("the same the other way round", told(ends + "node n a;node m b;wire m 0 n 0;").sum(0), 31);
        due("with 0 alone", told(ends + table("c", 5, 0) + "node n a;node m c;wire n 0 m 0;").sum(0), 10);
        due("with 1 alone", told(ends + table("c", 0, 7) + "node n a;node m c;wire n 0 m 0;").sum(0), 21);
        due("with none", told(ends + "node n a;node m z;wire n 0 m 0;").ways(0), 0);
        String wires = "";
        for (int count = 0; count <= 10; count++) {
            HoloNet x = told("field 97;table t 4" + times(16, " 1") + ";node a t;node b t;node c t;node d t;node e t;"
                + wires);
            due(count + " WIRES have settings", x.ways(0), 1 << count);
            due(count + " WIRES summed", x.sum(0), (1 << count) % 97);
            // LEGS 0 and 1, then 2 and 3, of each NODE.
            wires += "wire " + (char) ('a' + count / 2) + " " + count % 2 * 2 + " " + (char) ('a' + count / 2) + " "
                + (count % 2 * 2 + 1) + ";";
        }
    }

    private static void openByNodesThenLegs() {
        HoloNet x = told(THREE);
        row("at first", openLegs(x), 0, 2, 10);
        x.cut(1);
        row("cut", openLegs(x), 0, 1, 2, 10, 11);
        x.cut(0);
        row("cut", openLegs(x), 0, 1, 2, 3, 10, 11, 20);
        x.join(2, 0, 0, 0);
        row("joined", openLegs(x), 1, 2, 3, 10, 11);
        x.swap(0, 1, 3);
        row("swapped VALUES alone", openLegs(x), 1, 2, 3, 10, 11);
    }

    private static void firstOpenIsLowest() {
        HoloNet x = told("field 97;" + table("a", 2, 3) + table("b", 5, 7) + table("c", 1, 11) + "node n a;node m b;node k c;");
        row("three NODES", sums(x), 10, 15, 14, 21, 13, 68, 57, 37);
        // 110 - 97, 165 - 97, 154 - 97, 231 - 194.
        HoloNet y = told(table("a", 1, 2, 3, 4) + "node n a;");
        row("one NODE", sums(y), 1, 2, 3, 4);
    }

    private static void productOfAll() {
        String e = table("e", 96, 0);
        HoloNet x = told("field 97;" + e + "node a e;node b e;node c e;node d e;node f e;node g e;");
        due("96 six times", x.sum(0), 1);
        due("one of them 0", x.sum(32), 0);
        due("one of them 0", x.sum(1), 0);
        HoloNet y = told("field 97;" + e + "node a e;node b e;node c e;");
        due("96 three times", y.sum(0), 96);
    }

    private static void sumOfAllSettings() {
        due("without NODES", new HoloNet().sum(0), 1);
        due("without NODES", told("field 3;table a 1 0 0;base b 1 0 0 1;").sum(0), 1);
        // One WIRE: 2 5 + 3 7; a WIRE of one NODE: 1 + 4.
        due("one WIRE", told("field 97;" + table("a", 2, 3) + table("b", 5, 7) + "node n a;node m b;wire n 0 m 0;").sum(0), 31);
        due("of one NODE", told("field 97;" + table("a", 1, 2, 3, 4) + "node n a;wire n 0 n 1;").sum(0), 5);
        due("of one NODE, told the other way", told("field 97;" + table("a", 1, 2, 3, 4) + "node n a;wire n 1 n 0;").sum(0), 5);
        // Two WIRES straight: 1 1 + 2 2 + 3 3 + 4 4; crossed 2 3 + 3 2 instead.
        String two = "field 97;" + table("a", 1, 2, 3, 4) + "node n a;node m a;";
        due("straight", told(two + "wire n 0 m 0;wire n 1 m 1;").sum(0), 30);
        due("crossed", told(two + "wire n 0 m 1;wire n 1 m 0;").sum(0), 29);
        due("10 WIRES", tenWires("3", " 1").sum(0), 1024 % 3);
        due("10 WIRES", tenWires("97", " 1").sum(15), 1024 % 97);
    }

    /** Six NODES of four LEGS, all VALUES alike, 10 WIRES, four OPEN LEGS. */
    private static HoloNet tenWires(String p, String value) {
        StringBuilder text = new StringBuilder("field " + p + ";table t 4" + times(16, value) + ";");
        for (String name : "a b c d e f".split(" ")) {
            text.append("node ").append(name).append(" t;");
        }
        String[] wires = {"a 0 b 0", "b 1 c 0", "c 1 d 0", "d 1 e 0", "e 1 f 0", "f 1 a 1", "a 2 d 2", "b 2 e 2", "c 2 f 2",
            "a 3 b 3"};
        for (String wire : wires) {
            text.append("wire ").append(wire).append(';');
        }
        return told(text.toString());
    }

    // ---- promises 16 to 18

    private static void valueOfNode() {
        HoloNet x = told(THREE);
        row("NODE 0", nodeValues(x, 0), 1, 2, 3, 4, 5, 6, 7, 8, 9, 10, 11, 12, 13, 14, 15, 16);
        row("NODE 1", nodeValues(x, 1), 20, 30, 40, 50);
        row("NODE 2", nodeValues(x, 2), 60, 70);
        HoloNet six = tenWires("97", " 96");
        due("the last of all", six.node(5, 15), 96);
    }

    private static void legsOfNode() {
        HoloNet x = told(THREE + table("h", 0, 0, 0, 0, 0, 0, 0, 0) + "node d h;");
        row("LEGS", new int[] {x.node(0, NONE), x.node(1, NONE), x.node(2, NONE), x.node(3, NONE)}, 4, 2, 1, 3);
    }

    private static void noSuchNode() {
        HoloNet x = told(THREE);
        int[] sizes = {16, 4, 2};
        for (int n = 0; n < 3; n++) {
            due("behind the last INDEX", x.node(n, sizes[n]), -2);
            due("below NONE", x.node(n, -2), -2);
            for (int i : NEVER) {
                due("node(" + n + ", " + i + ")", x.node(n, i), -2);
            }
        }
        for (int n : NO_NODE) {
            due("node(" + n + ", 0)", x.node(n, 0), -2);
            due("node(" + n + ", NONE)", x.node(n, NONE), -2);
        }
        for (int n : NEVER) {
            due("node(" + n + ", 0)", x.node(n, 0), -2);
            due("node(" + n + ", NONE)", x.node(n, NONE), -2);
        }
        due("TABLES are no NODES", told("table a 1 1 1;").node(0, 0), -2);
    }

    private static void partsOfWire() {
        HoloNet x = told(THREE);
        row("WIRE 0", wireEnds(x, 0), 2, 0, 0, 3);
        row("WIRE 1", wireEnds(x, 1), 0, 1, 1, 1);
        HoloNet six = tenWires("3", " 0");
        row("the last of 10", wireEnds(six, 9), 0, 3, 1, 3);
        row("from the last NODE", wireEnds(six, 5), 5, 1, 0, 1);
    }

    private static void otherPartsOfWire() {
        HoloNet x = told(THREE);
        for (int w = 0; w < 2; w++) {
            int wire = w;
            for (int what : new int[] {-1, -2, 4, 5}) {
                throwsNone("wire(" + w + ", " + what + ")", () -> x.wire(wire, what));
            }
            for (int what : NEVER) {
                throwsNone("wire(" + w + ", " + what + ")", () -> x.wire(wire, what));
            }
        }
        due("behind it all is as ever", x.wire(0, 3), 3);
    }

    private static void noSuchWire() {
        HoloNet x = told(THREE);
        for (int w : NO_WIRE) {
            for (int what = -1; what <= 4; what++) {
                int part = what;
                throwsNone("wire(" + w + ", " + what + ")", () -> x.wire(w, part));
            }
        }
        for (int w : NEVER) {
            throwsNone("wire(" + w + ", 0)", () -> x.wire(w, 0));
        }
        x.cut(0);
        throwsNone("the last one when one is cut", () -> x.wire(1, 0));
        HoloNet six = tenWires("3", " 0");
        throwsNone("an 11th", () -> six.wire(10, 0));
    }

    private static void openLegsTold() {
        String four = "table t 4" + times(16, " 1") + ";node a t;node b t;node c t;node d t;node e t;node f t;";
        HoloNet x = told(four);
        for (int k = 0; k < 24; k++) {
            due("open(" + k + ")", x.open(k), 10 * (k / 4) + k % 4);
        }
        row("four of 10 WIRES", openLegs(tenWires("3", " 1")), 23, 33, 43, 53);
    }

    private static void howManyOpen() {
        due("without NODES", new HoloNet().open(NONE), 0);
        due("three", told(THREE).open(NONE), 3);
        due("four", tenWires("3", " 1").open(NONE), 4);
        due("none", told(table("a", 1, 2) + "node n a;node m a;wire n 0 m 0;").open(NONE), 0);
        due("24", told("table t 4" + times(16, " 1") + ";node a t;node b t;node c t;node d t;node e t;node f t;").open(NONE), 24);
    }

    private static void noSuchOpenLeg() {
        HoloNet x = told(THREE);
        due("the last one", x.open(2), 10);
        due("behind it", x.open(3), -2);
        due("-2", x.open(-2), -2);
        for (int k : NEVER) {
            due("open(" + k + ")", x.open(k), -2);
        }
        due("without NODES", new HoloNet().open(0), -2);
        due("without OPEN LEGS", told(table("a", 1, 2) + "node n a;node m a;wire n 0 m 0;").open(0), -2);
        HoloNet many = told("table t 4" + times(16, " 1") + ";node a t;node b t;node c t;node d t;node e t;node f t;");
        row("of 24", new int[] {many.open(23), many.open(24)}, 53, -2);
    }

    // ---- promises 19 to 22

    private static void sumAtIndex() {
        // At 0.0, 0.2, 1.0: over 0.1 and 0.3 of t at their bits, e at 0.3's, q at 1.0's and 0.1's.
        HoloNet x = told(THREE);
        int[] q = {20, 30, 40, 50};
        int[] e = {60, 70};
        for (int index = 0; index < 8; index++) {
            int sum = 0;
            for (int s = 0; s < 4; s++) {
                int t = 1 + (index & 1) + 2 * (s & 1) + 4 * (index >> 1 & 1) + 8 * (s >> 1);
                sum = (sum + t * e[s >> 1] * q[(index >> 2) + 2 * (s & 1)]) % 97;
            }
            due("sum(" + index + ")", x.sum(index), sum);
        }
    }

    private static void sumAtNone() {
        HoloNet x = told(THREE);
        for (int index : new int[] {-1, -2, 8, 9, 16}) {
            due("sum(" + index + ")", x.sum(index), NONE);
        }
        for (int index : NEVER) {
            due("sum(" + index + ")", x.sum(index), NONE);
        }
        due("without NODES", new HoloNet().sum(1), NONE);
        due("without NODES", new HoloNet().sum(-1), NONE);
        HoloNet none = told(table("a", 1, 2) + "node n a;node m a;wire n 0 m 0;");
        row("without OPEN LEGS", new int[] {none.sum(0), none.sum(1)}, 5, NONE);
        HoloNet many = told("table t 4" + times(15, " 1") + " 2;node a t;node b t;node c t;node d t;node e t;node f t;");
        due("the last of 2^24", many.sum((1 << 24) - 1), 64 % 7);
        due("behind it", many.sum(1 << 24), NONE);
        x.cut(0);
        row("two OPEN LEGS more", new int[] {x.sum(31) == NONE ? 1 : 0, x.sum(32)}, 0, NONE);
    }

    private static void total() {
        due("without NODES", new HoloNet().total(), 1);
        due("three and seven", told(table("a", 3, 4) + "node n a;").total(), 0);
        due("one NODE", told("field 97;" + table("a", 96, 95) + "node n a;").total(), 94);
        due("without OPEN LEGS", told(table("a", 1, 2) + "node n a;node m a;wire n 0 m 0;").total(), 5);
        HoloNet x = told(THREE);
        int together = 0;
        for (int sum : sums(x)) {
            together += sum;
        }
        due("of eight", x.total(), together % 97);
        due("10 WIRES, 4 OPEN LEGS", tenWires("97", " 1").total(), (1 << 14) % 97);
        due("2^24 by 97", told("field 97;table t 4" + times(16, " 1")
            + ";node a t;node b t;node c t;node d t;node e t;node f t;").total(), (1 << 24) % 97);
        due("the VALUES stay", x.node(0, 0), 1);
        due("NIL", told(table("a", 0, 0) + "node n a;").total(), 0);
    }

    private static void ways() {
        due("without NODES", new HoloNet().ways(0), 1);
        due("without WIRES", told(table("a", 0, 5) + "node n a;").ways(1), 1);
        due("without WIRES, a PRODUCT of 0", told(table("a", 0, 5) + "node n a;").ways(0), 0);
        HoloNet x = told(table("a", 1, 6) + table("b", 1, 1) + table("c", 0, 1) + "node n a;node m b;wire n 0 m 0;");
        row("SUM 0, two ways", new int[] {x.sum(0), x.ways(0)}, 0, 2);
        x.plug(1, 2);
        row("one way", new int[] {x.sum(0), x.ways(0)}, 6, 1);
        HoloNet ten = tenWires("3", " 2");
        for (int index = 0; index < 16; index++) {
            due("not modulo P", ten.ways(index), 1024);
        }
        due("no way", tenWires("3", " 0").ways(15), 0);
        // At 0 the WIRE may be 0 or 1, at 1 it must be 1.
        HoloNet y = told(table("a", 1, 0, 2, 3) + table("b", 1, 1) + "node n a;node m b;wire n 1 m 0;");
        row("by INDEX", new int[] {y.ways(0), y.ways(1)}, 2, 1);
    }

    private static void waysAtNone() {
        HoloNet x = told(THREE);
        for (int index : new int[] {-1, -2, 8, 9, 16}) {
            due("ways(" + index + ")", x.ways(index), NONE);
        }
        for (int index : NEVER) {
            due("ways(" + index + ")", x.ways(index), NONE);
        }
        due("without NODES", new HoloNet().ways(1), NONE);
        HoloNet none = told(table("a", 1, 2) + "node n a;node m a;wire n 0 m 0;");
        row("without OPEN LEGS", new int[] {none.ways(0), none.ways(1)}, 2, NONE);
        due("the last INDEX", x.ways(7), 4);
    }

    private static void within() {
        HoloNet x = told(THREE);
        due("none", x.within(0), 1);
        due("NODE 0", x.within(1), 1);
        due("NODE 1", x.within(2), 20);
        due("NODE 2", x.within(4), 60);
        // 1 20 + 3 40; 1 60 + 9 70; 20 60, no WIRE being between them.
        due("NODES 0 and 1", x.within(3), 140 - 97);
        due("NODES 0 and 2", x.within(5), 690 % 97);
        due("NODES 1 and 2", x.within(6), 1200 % 97);
        due("all", x.within(7), x.sum(0));
        due("a WIRE of one NODE", told("field 97;" + table("a", 1, 2, 3, 4, 5, 6, 7, 8) + "node n a;wire n 2 n 0;").within(1), 1 + 6);
        due("without NODES", new HoloNet().within(0), 1);
        due("all six", tenWires("97", " 1").within(63), 1024 % 97);
        due("the last of six", tenWires("97", " 5").within(32), 5);
    }

    private static void otherLegsAreZero() {
        String a = table("a", 5, 7, 11, 13) + "node n a;node m a;";
        due("OPEN ones", told("field 97;" + a).within(1), 5);
        due("one that leads to NODE 1", told("field 97;" + a + "wire n 0 m 0;").within(1), 5);
        due("one that comes from NODE 1", told("field 97;" + a + "wire m 1 n 0;").within(1), 5);
        due("of NODE 1", told("field 97;" + a + "wire m 1 n 0;").within(2), 5);
        due("OPEN ones beside a WIRE", told("field 97;" + a + "wire m 1 n 0;").within(3), (25 + 11 * 7) % 97);
    }

    private static void withinNone() {
        HoloNet x = told(THREE);
        for (int nodes : new int[] {-1, -2, 8, 9, 15, 16}) {
            due("within(" + nodes + ")", x.within(nodes), NONE);
        }
        for (int nodes : NEVER) {
            due("within(" + nodes + ")", x.within(nodes), NONE);
        }
        due("without NODES", new HoloNet().within(1), NONE);
        due("without NODES", new HoloNet().within(-1), NONE);
        due("a seventh", tenWires("3", " 1").within(64), NONE);
    }

    // ---- promise 23

    private static final String ENDS = table("e", 1, 1) + table("q", 1, 1, 1, 1) + table("h", 1, 1, 1, 1, 1, 1, 1, 1)
        + "table t 4" + times(16, " 1") + ";";

    private static void eachNodeOnce() {
        String nodes = "";
        for (int count = 0; count <= 6; count++) {
            HoloNet x = told(ENDS + nodes);
            boolean[] taken = new boolean[6];
            for (int node : order(x)) {
                holds("NODE " + node + " of " + count + " is there and not taken yet", node >= 0 && node < count && !taken[node]);
                taken[node] = true;
            }
            due("no NODE more", x.width(count + 1), NONE);
            nodes += "node " + (char) ('u' + count) + " " + (count % 2 == 0 ? "h" : "q") + ";"
                + (count > 0 ? "wire " + (char) ('u' + count) + " 0 " + (char) ('u' + count - 1) + " 1;" : "");
        }
    }

    private static void mostBehindEachTaking() {
        due("at the first", told(ENDS + "node a q;node b q;wire a 0 b 0;wire a 1 b 1;").width(0), 2);
        due("at the last", told(ENDS + "node a e;node b e;node c e;").width(0), 3);
        // b, c, a, d: 1, 2, 2, 1.
        due("in the middle", told(ENDS + "node a t;node b e;node c e;node d e;wire a 0 b 0;wire a 1 c 0;wire a 2 d 0;").width(0), 2);
        due("one NODE", told(ENDS + "node a t;").width(0), 4);
        due("24", told(ENDS + "node a t;node b t;node c t;node d t;node f t;node g t;").width(0), 24);
    }

    private static void legsThatCount() {
        due("a WIRE of one NODE leads nowhere", told(ENDS + "node a t;wire a 0 a 1;wire a 3 a 2;").width(0), 0);
        due("one LEG beside it", told(ENDS + "node a h;wire a 0 a 2;").width(0), 1);
        due("two WIRES are two LEGS", told(ENDS + "node a q;node b q;wire a 0 b 1;wire b 0 a 1;").width(0), 2);
        due("four WIRES", told(ENDS + "node a t;node b t;wire a 0 b 1;wire b 0 a 1;wire a 2 b 2;wire a 3 b 3;").width(0), 4);
        due("OPEN ones to the end", told(ENDS + "node a h;node b h;wire a 0 b 0;").width(0), 4);
        due("WIRES between those taken no more", told(ENDS + "node a q;node b q;node c q;wire a 0 b 0;wire b 1 c 0;").width(0), 2);
    }

    private static void leastWidth() {
        HoloNet x = told(ENDS + "node a t;node b q;node c q;wire a 0 b 0;wire a 1 b 1;wire a 2 c 0;wire a 3 c 1;");
        due("its WIDTH", x.width(0), 2);
        row("the first NODE is not taken first", order(x), 1, 0, 2);
        HoloNet star = told(ENDS + "node a t;node b e;node c e;node d e;node f e;wire a 0 b 0;wire a 1 c 0;wire a 2 d 0;wire a 3 f 0;");
        due("a star", star.width(0), 2);
        row("two of its ends first", order(star), 1, 2, 0, 3, 4);
        HoloNet ring = told(ENDS + "node a q;node b q;node c q;node d q;node f q;node g q;wire a 0 c 0;wire c 1 f 0;wire f 1 b 0;"
            + "wire b 1 d 0;wire d 1 g 0;wire g 1 a 1;");
        due("a ring of six", ring.width(0), 2);
        row("along it", order(ring), 0, 2, 4, 1, 3, 5);
    }

    private static void firstByNumbers() {
        String square = ENDS + "node a q;node b q;node c q;node d q;wire a 0 c 0;wire c 1 b 0;wire b 1 d 0;wire d 1 a 1;";
        HoloNet x = told(square);
        due("a square", x.width(0), 2);
        row("a, c, b, d ahead of a, d, b, c", order(x), 0, 2, 1, 3);
        // Four OPEN LEGS more: by them the WIDTH is 4 at least, and a, b may be taken at once.
        HoloNet y = told(square + "node f t;");
        due("with four OPEN LEGS", y.width(0), 4);
        row("by numbers alone", order(y), 0, 1, 2, 3, 4);
        row("nothing wired", order(told(ENDS + "node a e;node b e;node c e;node d e;node f e;node g e;")), 0, 1, 2, 3, 4, 5);
    }

    private static void widthAndOrder() {
        HoloNet x = told(ENDS + "node a t;node b e;node c e;node d e;node f e;node g e;wire a 0 b 0;wire a 1 c 0;wire a 2 d 0;wire a 3 f 0;");
        // The sixth NODE is OPEN: taken last it is 1.
        row("width 0 to 6", new int[] {x.width(0), x.width(1), x.width(2), x.width(3), x.width(4), x.width(5), x.width(6)},
            2, 1, 2, 0, 3, 4, 5);
        x.cut(0);
        due("by the WIRES of now", x.width(0), 3);
        due("one NODE", told(ENDS + "node a e;").width(1), 0);
    }

    private static void widthOfOthers() {
        HoloNet x = told(THREE);
        for (int what : new int[] {-1, -2, 4, 5, 7}) {
            due("width(" + what + ")", x.width(what), NONE);
        }
        for (int what : NEVER) {
            due("width(" + what + ")", x.width(what), NONE);
        }
        holds("the last one", x.width(3) >= 0);
        due("a seventh", tenWires("3", " 1").width(7), NONE);
        holds("the sixth", tenWires("3", " 1").width(6) >= 0);
    }

    private static void widthWithoutNodes() {
        HoloNet x = new HoloNet();
        row("width -1 to 2", new int[] {x.width(-1), x.width(0), x.width(1), x.width(2)}, NONE, 0, NONE, NONE);
        due("TABLES alone", told("table a 1 1 1;").width(0), 0);
        tell(x, "table a 1 1 1;node n a;");
        tell(x, "");
        row("an empty TEXT behind one with a NODE", new int[] {x.width(0), x.width(1)}, 0, NONE);
    }
}
