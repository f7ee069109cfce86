/** What the document's Terms tell of ACTS and KEEPS, and promises 24 to 32: a test for each sentence with a boundary. */
public final class ActEdgesTest extends Checks {
    /** P 11. TABLES of 2, 3, 1, 2 LEGS; BASES m, n; NODES a, b, c, d; WIRES 0.0 - 1.1, 1.2 - 2.0, 2.1 - 2.2; OPEN are 0.1, 1.0, 3.0. */
    private static final String NET = "field 11;" + table("q", 1, 2, 3, 4) + table("r", 1, 0, 5, 2, 7, 8, 9, 10) + table("e", 3, 4)
        + "gate g 2 2 0 1 6;base m 2 3 4 5;base n 0 1 3 7;node a q;node b r;node c r;node d e;wire a 0 b 1;wire b 2 c 0;wire c 1 c 2;";
    private static final int[] NO_NODE = {-1, -2, 4, 5, 6};
    private static final int[] NO_TABLE = {-1, -2, 4, 5, 8};
    private static final int[] NO_BASE = {-1, -2, 2, 3, 5};
    private static final int[] NO_WIRE = {-1, -2, 3, 4, 10};

    public static void main(String[] args) {
        terms();
        values();
        wires();
        pastAndKeeps();
        end();
    }

    private static void terms() {
        sentence("Terms", "wires whose base is changed, by which no sum changes", ActEdgesTest::noSumChanges);
        sentence("Terms 2", "A WIRE is CHANGED by a BASE: the LEG told first by it", ActEdgesTest::legToldFirst);
        sentence("Terms 2", "the other one by the inverse of the BASE, turned over ((d, -c), (-b, a), each by ad - bc).",
            ActEdgesTest::otherLeg);
        sentence("Terms 3", "ACTS: a WIRE CHANGED, a NODE plugged, scaled, its LEGS swapped, LEGS joined, a WIRE cut.",
            ActEdgesTest::sixActs);
        sentence("Terms 3", "The last 12 can be UNDONE", ActEdgesTest::lastTwelve);
        sentence("Terms 3", "one by one.", ActEdgesTest::oneByOne);
        sentence("Terms 3", "KEEPS 0 and 1 hold all", ActEdgesTest::keepsHoldAll);
        sentence("Terms 3", "but THE TAPE and the TEXT", ActEdgesTest::keepsHoldNoTape);
        sentence("Terms 3", "(nothing can be UNDONE when one is gone back to).", ActEdgesTest::nothingUndoneBehindBack);
    }

    private static void values() {
        sentence("Promise 24", "A WIRE is CHANGED by a BASE: true", ActEdgesTest::change);
        sentence("Promise 24", "false: none such.", ActEdgesTest::changeNone);
        sentence("Promise 25", "A NODE has the VALUES of a TABLE with as many LEGS: true", ActEdgesTest::plug);
        sentence("Promise 25", "false: none such", ActEdgesTest::plugNone);
        sentence("Promise 25", "not as many.", ActEdgesTest::plugOtherLegs);
        sentence("Promise 26", "VALUES of a NODE are so many times as much (f 1 to P - 1): true", ActEdgesTest::scale);
        sentence("Promise 26", "false: others.", ActEdgesTest::scaleOthers);
        sentence("Promise 27", "Two LEGS of a NODE change places in its VALUES", ActEdgesTest::swap);
        sentence("Promise 27", "(WIRES stay): true", ActEdgesTest::swapWiresStay);
        sentence("Promise 27", "false: none such", ActEdgesTest::swapNone);
        sentence("Promise 27", "one and the same.", ActEdgesTest::swapTheSame);
    }

    private static void wires() {
        sentence("Promise 28", "A WIRE more, between two OPEN LEGS: its number", ActEdgesTest::join);
        sentence("Promise 28", "NONE: none such", ActEdgesTest::joinNone);
        sentence("Promise 28", "one and the same", ActEdgesTest::joinTheSame);
        sentence("Promise 28", "10 are there.", ActEdgesTest::joinAnEleventh);
        sentence("Promise 29", "A WIRE is cut", ActEdgesTest::cut);
        sentence("Promise 29", "(those behind it have one less as numbers)", ActEdgesTest::cutNumbers);
        sentence("Promise 29", "how many there are", ActEdgesTest::cutHowMany);
        sentence("Promise 29", "NONE: none such.", ActEdgesTest::cutNone);
    }

    private static void pastAndKeeps() {
        sentence("Promise 30", "The latest ACT is UNDONE", ActEdgesTest::undoLatest);
        sentence("Promise 30", "how many can be still", ActEdgesTest::undoHowMany);
        sentence("Promise 30", "NONE: none can be.", ActEdgesTest::undoNone);
        sentence("Promise 31", "A KEEP is laid", ActEdgesTest::keepLaid);
        sentence("Promise 31", "(back: gone back to): true", ActEdgesTest::keepBack);
        sentence("Promise 31", "false: none such", ActEdgesTest::keepNone);
        sentence("Promise 31", "nothing is in it (back).", ActEdgesTest::keepEmpty);
        sentence("Promise 32", "What 0: P, 1: TABLES, 2: BASES, 3: NODES, 4: WIRES, 5: OPEN LEGS", ActEdgesTest::counts);
        sentence("Promise 32", "6: ACTS that can be UNDONE, 7: bytes on THE TAPE.", ActEdgesTest::countsThatMove);
        sentence("Promise 32", "NONE for another what.", ActEdgesTest::countOthers);
    }

    /** All that a KEEP holds and an ACT may change. */
    private static String state(HoloNet x) {
        StringBuilder text = new StringBuilder();
        for (int n = 0; n < x.count(3); n++) {
            text.append(java.util.Arrays.toString(nodeValues(x, n)));
        }
        for (int w = 0; w < x.count(4); w++) {
            text.append(java.util.Arrays.toString(wireEnds(x, w)));
        }
        return text.toString();
    }

    /** One ACT of each of the six kinds on NET, all of which change something. */
    private static void act(HoloNet x, int kind) {
        boolean good;
        switch (kind) {
            case 0 -> good = x.change(0, 0);
            case 1 -> good = x.plug(0, 3);
            case 2 -> good = x.scale(1, 10);
            case 3 -> good = x.swap(2, 0, 1);
            case 4 -> good = x.join(0, 1, 3, 0) >= 0;
            default -> good = x.cut(0) >= 0;
        }
        holds("ACT of kind " + kind, good);
    }

    // ---- terms

    private static void noSumChanges() {
        HoloNet x = told(NET);
        int[] sums = sums(x);
        int total = x.total();
        for (int w = 0; w < 3; w++) {
            for (int b = 0; b < 2; b++) {
                String before = state(x);
                x.change(w, b);
                refused("VALUES stay", state(x).equals(before));
                row("SUMS, WIRE " + w + " by BASE " + b, sums(x), sums);
                due("total", x.total(), total);
            }
        }
    }

    private static void legToldFirst() {
        HoloNet x = told(table("i", 1, 0) + table("j", 0, 1) + "base b 2 3 1 4;node a i;node f j;node c i;node d j;"
            + "wire a 0 c 0;wire f 0 d 0;");
        x.change(0, 0);
        x.change(1, 0);
        row("(1, 0) becomes (a, c)", nodeValues(x, 0), 2, 1);
        row("(0, 1) becomes (b, d)", nodeValues(x, 1), 3, 4);
    }

    private static void otherLeg() {
        // ad - bc is 5, its inverse modulo 7 is 3: d, -c, -b, a by it are 12, -3, -9, 6.
        HoloNet x = told(table("i", 1, 0) + table("j", 0, 1) + "base b 2 3 1 4;node a i;node f j;node c i;node d j;"
            + "wire a 0 c 0;wire f 0 d 0;");
        x.change(0, 0);
        x.change(1, 0);
        row("(1, 0) becomes (d, -b) by ad - bc", nodeValues(x, 2), 5, 5);
        row("(0, 1) becomes (-c, a) by ad - bc", nodeValues(x, 3), 4, 6);
        // Of one NODE: LEG 1 by ((2, 3), (1, 4)), LEG 0 by ((5, 4), (5, 6)).
        HoloNet y = told(table("q", 1, 0, 0, 0) + "base b 2 3 1 4;node a q;wire a 1 a 0;");
        y.change(0, 0);
        row("of one NODE", nodeValues(y, 0), 10 - 7, 10 - 7, 5, 5);
        for (int p : new int[] {3, 7, 97}) {
            for (int d = 1; d < p; d++) {
                // ad - bc is d: (1, 1) stays at bit 0, and is the inverse of d at bit 1.
                HoloNet each = told("field " + p + ";" + table("q", 1, 1) + "base b 1 0 0 " + d + ";node a q;node c q;wire a 0 c 0;");
                each.change(0, 0);
                row("the LEG told first by d " + d, nodeValues(each, 0), 1, d);
                due("the other one at 0", each.node(1, 0), 1);
                due("the other one at 1", each.node(1, 1) * d % p, 1);
            }
        }
        // ad - bc is -1 by the greatest P: ((0, -1), (-1, 0)) by -1 is ((0, 1), (1, 0)).
        HoloNet z = told("field 97;" + table("q", 95, 96) + "base b 0 1 1 0;node a q;node c q;wire a 0 c 0;");
        z.change(0, 0);
        row("by 97", nodeValues(z, 0), 96, 95);
        row("by 97", nodeValues(z, 1), 96, 95);
    }

    private static void sixActs() {
        for (int kind = 0; kind < 6; kind++) {
            HoloNet x = told(NET);
            String before = state(x);
            act(x, kind);
            due("ACTS", x.count(6), 1);
            refused("kind " + kind + " changes nothing", state(x).equals(before));
            due("undo", x.undo(), 0);
            holds("kind " + kind + " is UNDONE", state(x).equals(before));
            due("none is left", x.undo(), NONE);
        }
        HoloNet x = told(NET);
        x.scale(0, 1);
        x.plug(0, 0);
        x.swap(2, 1, 2);
        due("ACTS that change next to nothing", x.count(6), 3);
        // Questions and KEEPS are no ACTS.
        x.keep(0, false);
        x.feed(0, 0, 0, 0, 0);
        x.sum(0);
        x.total();
        x.width(0);
        x.net(-1);
        due("no ACTS", x.count(6), 3);
    }

    private static void lastTwelve() {
        for (int acts = 0; acts <= 30; acts++) {
            HoloNet x = told("field 97;" + table("e", 1, 0) + "node a e;");
            for (int k = 0; k < acts; k++) {
                x.scale(0, 2);
            }
            due("of " + acts, x.count(6), Math.min(12, acts));
            int undone = 0;
            for (int k = 0; k < 40 && x.undo() != NONE; k++) {
                undone++;
            }
            due("UNDONE of " + acts, undone, Math.min(12, acts));
            int left = acts - undone;
            due("what is left", x.node(0, 0), power(2, left, 97));
        }
    }

    private static int power(int base, int n, int p) {
        int answer = 1;
        for (int k = 0; k < n; k++) {
            answer = answer * base % p;
        }
        return answer;
    }

    private static void oneByOne() {
        HoloNet x = told("field 97;" + table("e", 1, 0) + "node a e;");
        // Fewer and more in turn, round the bound many times: what is left is told by the VALUE.
        int height = 0;
        int undoable = 0;
        for (int turn = 0; turn < 9; turn++) {
            for (int k = 0; k < 7 + turn; k++) {
                x.scale(0, 2);
                height++;
                undoable = Math.min(12, undoable + 1);
                due("VALUE", x.node(0, 0), power(2, height, 97));
            }
            for (int k = 0; k < 5 + turn % 3; k++) {
                undoable--;
                height--;
                due("undo", x.undo(), undoable);
                due("VALUE", x.node(0, 0), power(2, height, 97));
            }
        }
        HoloNet y = told(NET);
        String[] states = new String[7];
        int[] kinds = {4, 0, 3, 2, 1, 5};
        for (int k = 0; k < 6; k++) {
            states[k] = state(y);
            act(y, kinds[k]);
        }
        for (int k = 5; k >= 0; k--) {
            due("undo", y.undo(), k);
            holds("as ahead of ACT " + k, state(y).equals(states[k]));
        }
    }

    private static void keepsHoldAll() {
        for (int kind = 0; kind < 6; kind++) {
            HoloNet x = told(NET);
            act(x, 2);
            x.keep(0, false);
            String first = state(x);
            act(x, kind);
            x.keep(1, false);
            String second = state(x);
            act(x, kind == 4 ? 5 : 3);
            holds("gone back to 0", x.keep(0, true));
            holds("as it was, kind " + kind, state(x).equals(first));
            holds("gone back to 1", x.keep(1, true));
            holds("as it was, kind " + kind, state(x).equals(second));
        }
        HoloNet six = told("table t 4" + times(16, " 5") + ";node a t;node b t;node c t;node d t;node e t;node f t;"
            + "wire a 0 b 0;wire b 1 c 0;wire c 1 d 0;wire d 1 e 0;wire e 1 f 0;wire f 1 a 1;wire a 2 d 2;wire b 2 e 2;wire c 2 f 2;"
            + "wire a 3 b 3;");
        String full = state(six);
        six.keep(1, false);
        for (int n = 0; n < 6; n++) {
            six.scale(n, 2);
            six.cut(0);
        }
        six.keep(1, true);
        holds("six NODES and 10 WIRES", state(six).equals(full));
    }

    private static void keepsHoldNoTape() {
        HoloNet x = told(NET);
        x.keep(0, false);
        feedAll(x, "field 13;           table a 1 1 1;");
        holds("gone back", x.keep(0, true));
        due("bytes", x.count(7), 40);
        due("its bytes are as they were", x.net(34), 2);
        row("the TEXT is the new one", new int[] {x.count(0), x.count(1), x.count(3)}, 13, 1, 0);
        refused("KEEPS of another TEXT", x.keep(0, true));
        x.keep(0, false);
        due("no bytes", x.count(7), 0);
        x.feed(0, 0, 0, 0, 0);
        x.keep(1, false);
        due("20 bytes", x.count(7), 20);
    }

    private static void nothingUndoneBehindBack() {
        HoloNet x = told(NET);
        act(x, 2);
        act(x, 3);
        x.keep(0, false);
        due("laid: they can be", x.count(6), 2);
        act(x, 0);
        x.keep(0, true);
        due("ACTS", x.count(6), 0);
        due("undo", x.undo(), NONE);
        String kept = state(x);
        act(x, 2);
        due("an ACT behind it", x.undo(), 0);
        holds("UNDONE", state(x).equals(kept));
        due("no further", x.undo(), NONE);
        for (int k = 0; k < 15; k++) {
            x.scale(0, 2);
        }
        x.keep(0, true);
        due("undo", x.undo(), NONE);
    }

    // ---- promises 24 to 27

    private static void change() {
        HoloNet x = told(NET);
        holds("change(0, 0)", x.change(0, 0));
        // LEG 0 of a by ((2, 3), (4, 5)): 2 + 6, 4 + 10, 6 + 12, 12 + 20.
        row("NODE 0", nodeValues(x, 0), 8, 3, 7, 10);
        row("NODE 2", nodeValues(x, 2), 1, 0, 5, 2, 7, 8, 9, 10);
        holds("the last of all", x.change(2, 1));
        row("the WIRE", wireEnds(x, 2), 2, 1, 2, 2);
        due("ACTS", x.count(6), 2);
        row("the BASE", new int[] {x.base(0, 0), x.base(0, 1), x.base(0, 2), x.base(0, 3)}, 2, 3, 4, 5);
        row("the TABLE", tableValues(x, 0), 1, 2, 3, 4);
    }

    /** What was refused has changed nothing, and is no ACT. */
    private static void untouched(HoloNet x, String before) {
        holds("nothing has changed", state(x).equals(before));
        due("no ACTS", x.count(6), 0);
    }

    private static void changeNone() {
        HoloNet x = told(NET);
        String before = state(x);
        for (int w : NO_WIRE) {
            refused("change(" + w + ", 0)", x.change(w, 0));
        }
        for (int b : NO_BASE) {
            refused("change(0, " + b + ")", x.change(0, b));
        }
        for (int never : NEVER) {
            refused("change(" + never + ", 0)", x.change(never, 0));
            refused("change(0, " + never + ")", x.change(0, never));
            refused("change(" + never + ", " + never + ")", x.change(never, never));
        }
        untouched(x, before);
        refused("without WIRES", told("table a 1 1 1;base b 1 0 0 1;node n a;").change(0, 0));
        refused("without BASES", told("table a 1 1 1;node n a;node m a;wire n 0 m 0;").change(0, 0));
    }

    private static void plug() {
        HoloNet x = told(NET);
        holds("plug(0, 3)", x.plug(0, 3));
        row("of a gate", nodeValues(x, 0), 6, 0, 0, 1);
        holds("plug(0, 0)", x.plug(0, 0));
        row("of a table", nodeValues(x, 0), 1, 2, 3, 4);
        holds("the last NODE", x.plug(3, 2));
        row("WIRES stay", wireEnds(x, 0), 0, 0, 1, 1);
        HoloNet y = told("table a 4" + times(16, " 1") + ";table b 4" + times(15, " 0") + " 6;node n a;");
        holds("four LEGS", y.plug(0, 1));
        row("four LEGS", nodeValues(y, 0), sparse(16, 15, 6));
        y.scale(0, 3);
        row("the TABLE stays", tableValues(y, 1), sparse(16, 15, 6));
    }

    private static void plugNone() {
        HoloNet x = told(NET);
        String before = state(x);
        for (int n : NO_NODE) {
            refused("plug(" + n + ", 0)", x.plug(n, 0));
        }
        for (int t : NO_TABLE) {
            refused("plug(0, " + t + ")", x.plug(0, t));
        }
        for (int never : NEVER) {
            refused("plug(" + never + ", 0)", x.plug(never, 0));
            refused("plug(0, " + never + ")", x.plug(0, never));
        }
        untouched(x, before);
        refused("without NODES", told("table a 1 1 1;").plug(0, 0));
    }

    private static void plugOtherLegs() {
        HoloNet x = told(NET + "table k 4" + times(16, " 1") + ";node f k;");
        int[] tableLegs = {2, 3, 1, 2, 4};
        int[] nodeLegs = {2, 3, 3, 1, 4};
        String before = state(x);
        for (int n = 0; n < 5; n++) {
            for (int t = 0; t < 5; t++) {
                if (nodeLegs[n] != tableLegs[t]) {
                    refused("plug(" + n + ", " + t + ")", x.plug(n, t));
                }
            }
        }
        untouched(x, before);
    }

    private static void scale() {
        HoloNet x = told("field 97;" + table("q", 1, 96, 0, 50) + "node a q;node b q;");
        holds("by 1", x.scale(0, 1));
        row("by 1", nodeValues(x, 0), 1, 96, 0, 50);
        holds("by P - 1", x.scale(0, 96));
        row("by P - 1", nodeValues(x, 0), 96, 1, 0, 47);
        holds("by 2", x.scale(0, 2));
        row("by 2", nodeValues(x, 0), 95, 2, 0, 94);
        row("the other one", nodeValues(x, 1), 1, 96, 0, 50);
        due("ACTS", x.count(6), 3);
        HoloNet three = told("field 3;" + table("e", 1, 2) + "node a e;");
        holds("2 by 3", three.scale(0, 2));
        row("2 by 3", nodeValues(three, 0), 2, 1);
    }

    private static void scaleOthers() {
        HoloNet x = told(NET);
        String before = state(x);
        for (int f : new int[] {0, -1, -2, 11, 12, 22}) {
            refused("scale(0, " + f + ")", x.scale(0, f));
        }
        for (int n : NO_NODE) {
            refused("scale(" + n + ", 1)", x.scale(n, 1));
        }
        for (int never : NEVER) {
            refused("scale(0, " + never + ")", x.scale(0, never));
            refused("scale(" + never + ", 1)", x.scale(never, 1));
        }
        untouched(x, before);
        for (int p : new int[] {3, 7, 97}) {
            HoloNet y = told("field " + p + ";" + table("e", 1, 0) + "node a e;");
            refused("by P " + p, y.scale(0, p));
            refused("by 0", y.scale(0, 0));
            holds("by P - 1", y.scale(0, p - 1));
        }
    }

    private static void swap() {
        int[] values = {0, 1, 2, 3, 4, 5, 6, 7, 8, 9, 10, 11, 12, 13, 14, 15};
        for (int leg = 0; leg < 4; leg++) {
            for (int other = 0; other < 4; other++) {
                if (leg != other) {
                    HoloNet x = told("field 17;" + table("t", values) + "node a t;");
                    holds("swap(0, " + leg + ", " + other + ")", x.swap(0, leg, other));
                    int[] want = new int[16];
                    for (int i = 0; i < 16; i++) {
                        boolean unlike = (i >> leg & 1) != (i >> other & 1);
                        want[i] = unlike ? i ^ (1 << leg | 1 << other) : i;
                    }
                    row("swap(0, " + leg + ", " + other + ")", nodeValues(x, 0), want);
                }
            }
        }
        HoloNet y = told(NET);
        holds("two LEGS", y.swap(0, 1, 0));
        row("two LEGS", nodeValues(y, 0), 1, 3, 2, 4);
        holds("three LEGS", y.swap(1, 2, 0));
        row("three LEGS", nodeValues(y, 1), 1, 7, 5, 9, 0, 8, 2, 10);
        row("the TABLE stays", tableValues(y, 1), 1, 0, 5, 2, 7, 8, 9, 10);
    }

    private static void swapWiresStay() {
        HoloNet x = told(NET);
        x.swap(0, 0, 1);
        x.swap(1, 1, 2);
        x.swap(2, 0, 2);
        row("WIRE 0", wireEnds(x, 0), 0, 0, 1, 1);
        row("WIRE 1", wireEnds(x, 1), 1, 2, 2, 0);
        row("WIRE 2", wireEnds(x, 2), 2, 1, 2, 2);
        row("OPEN LEGS", openLegs(x), 1, 10, 30);
        // The SUM does change, as another LEG of q has the WIRE: 1 5 + 2 7, then 1 5 + 3 7.
        HoloNet y = told("field 97;" + table("q", 1, 2, 3, 4) + table("e", 5, 7) + "node a q;node b e;wire a 0 b 0;");
        row("ahead of it", sums(y), 19, 43);
        y.swap(0, 0, 1);
        row("behind it", sums(y), 26, 38);
    }

    private static void swapNone() {
        HoloNet x = told(NET);
        String before = state(x);
        for (int n : NO_NODE) {
            refused("swap(" + n + ", 0, 1)", x.swap(n, 0, 1));
        }
        int[] legs = {2, 3, 3, 1};
        for (int n = 0; n < 4; n++) {
            for (int leg : new int[] {-1, -2, legs[n], legs[n] + 1, 4}) {
                refused("swap(" + n + ", 0, " + leg + ")", x.swap(n, 0, leg));
                refused("swap(" + n + ", " + leg + ", 0)", x.swap(n, leg, 0));
            }
        }
        for (int never : NEVER) {
            refused("swap(" + never + ", 0, 1)", x.swap(never, 0, 1));
            refused("swap(0, " + never + ", 1)", x.swap(0, never, 1));
            refused("swap(0, 0, " + never + ")", x.swap(0, 0, never));
        }
        untouched(x, before);
    }

    private static void swapTheSame() {
        HoloNet x = told(NET);
        String before = state(x);
        int[] legs = {2, 3, 3, 1};
        for (int n = 0; n < 4; n++) {
            for (int leg = 0; leg < legs[n]; leg++) {
                refused("swap(" + n + ", " + leg + ", " + leg + ")", x.swap(n, leg, leg));
            }
        }
        untouched(x, before);
    }

    // ---- promises 28 and 29

    private static void join() {
        HoloNet x = told(NET);
        due("join(3, 0, 1, 0)", x.join(3, 0, 1, 0), 3);
        row("told first is the first", wireEnds(x, 3), 3, 0, 1, 0);
        row("OPEN LEGS", openLegs(x), 1);
        due("ACTS", x.count(6), 1);
        HoloNet y = told(table("q", 1, 2, 3, 4) + "node a q;");
        due("of one NODE", y.join(0, 1, 0, 0), 0);
        row("of one NODE", wireEnds(y, 0), 0, 1, 0, 0);
        due("its SUM", y.sum(0), 5);
        HoloNet z = told("table t 4" + times(16, " 1") + ";node a t;node b t;node c t;node d t;node e t;node f t;");
        for (int k = 0; k < 10; k++) {
            due("as many as 10", z.join(5 - k / 4, k % 4, k / 4, 3 - k % 4), k);
            row("its ends", wireEnds(z, k), 5 - k / 4, k % 4, k / 4, 3 - k % 4);
        }
        due("OPEN LEGS", z.open(NONE), 4);
    }

    private static void joinNone() {
        HoloNet x = told(NET);
        String before = state(x);
        for (int n : NO_NODE) {
            due("NODE " + n, x.join(n, 0, 3, 0), NONE);
            due("other NODE " + n, x.join(3, 0, n, 0), NONE);
        }
        for (int leg : new int[] {-1, -2, 2, 3, 4}) {
            due("LEG " + leg, x.join(0, leg, 3, 0), NONE);
            due("other LEG " + leg, x.join(3, 0, 0, leg), NONE);
        }
        for (int never : NEVER) {
            due("NODE " + never, x.join(never, 0, 3, 0), NONE);
            due("LEG " + never, x.join(0, never, 3, 0), NONE);
            due("other NODE " + never, x.join(3, 0, never, 0), NONE);
            due("other LEG " + never, x.join(3, 0, 0, never), NONE);
        }
        // LEGS that have a WIRE are not OPEN: told first, told second, of one NODE.
        int[][] taken = {{0, 0}, {1, 1}, {1, 2}, {2, 0}, {2, 1}, {2, 2}};
        for (int[] leg : taken) {
            due("a LEG with a WIRE", x.join(leg[0], leg[1], 3, 0), NONE);
            due("a LEG with a WIRE, the other one", x.join(3, 0, leg[0], leg[1]), NONE);
        }
        // LEG 4 of NODE 0 is none, though 4 LEGS on from its first would be LEG 0 of NODE 1.
        due("LEG 4 of NODE 0", x.join(0, 4, 0, 1), NONE);
        untouched(x, before);
    }

    private static void joinTheSame() {
        HoloNet x = told(NET);
        String before = state(x);
        due("join(0, 1, 0, 1)", x.join(0, 1, 0, 1), NONE);
        due("join(1, 0, 1, 0)", x.join(1, 0, 1, 0), NONE);
        due("join(3, 0, 3, 0)", x.join(3, 0, 3, 0), NONE);
        untouched(x, before);
    }

    private static void joinAnEleventh() {
        HoloNet x = told("table t 4" + times(16, " 1") + ";node a t;node b t;node c t;node d t;node e t;node f t;"
            + "wire a 0 a 1;wire a 2 a 3;wire b 0 b 1;wire b 2 b 3;wire c 0 c 1;wire c 2 c 3;wire d 0 d 1;wire d 2 d 3;wire e 0 e 1;");
        due("the 10th", x.join(4, 2, 4, 3), 9);
        due("an 11th", x.join(5, 0, 5, 1), NONE);
        due("an 11th", x.join(5, 2, 5, 3), NONE);
        due("WIRES", x.count(4), 10);
        due("ACTS", x.count(6), 1);
        due("cut one", x.cut(0), 9);
        due("and there is room", x.join(5, 0, 5, 1), 9);
        due("no more", x.join(5, 2, 5, 3), NONE);
    }

    private static void cut() {
        HoloNet x = told(NET);
        int with = x.sum(0);
        x.cut(0);
        row("OPEN LEGS", openLegs(x), 0, 1, 10, 11, 30);
        due("ACTS", x.count(6), 1);
        // At 0.0 and 1.1 alike, the WIRE is as if there.
        due("its SUM as two", (x.sum(0) + x.sum(0b01001)) % 11, with);
        HoloNet y = told(table("q", 1, 2, 3, 4) + "node a q;wire a 0 a 1;");
        due("the only one", y.cut(0), 0);
        row("of one NODE", openLegs(y), 0, 1);
        due("joined again", y.join(0, 0, 0, 1), 0);
    }

    private static void cutNumbers() {
        HoloNet x = told(NET);
        x.cut(1);
        row("ahead of it", wireEnds(x, 0), 0, 0, 1, 1);
        row("behind it", wireEnds(x, 1), 2, 1, 2, 2);
        HoloNet y = told(NET);
        y.cut(0);
        row("behind the first", wireEnds(y, 0), 1, 2, 2, 0);
        row("behind the first", wireEnds(y, 1), 2, 1, 2, 2);
        HoloNet z = told(NET);
        z.cut(2);
        row("ahead of the last", wireEnds(z, 0), 0, 0, 1, 1);
        row("ahead of the last", wireEnds(z, 1), 1, 2, 2, 0);
        z.cut(0);
        row("and once more", wireEnds(z, 0), 1, 2, 2, 0);
        due("joined at the end", z.join(0, 0, 1, 1), 1);
        row("joined at the end", wireEnds(z, 1), 0, 0, 1, 1);
        for (int wire = 0; wire < 10; wire++) {
            HoloNet ten = tenWires();
            ten.cut(wire);
            for (int w = 0; w < 9; w++) {
                int before = w < wire ? w : w + 1;
                row("of 10 without " + wire + ", " + w, wireEnds(ten, w), before / 2, before % 2 * 2, before / 2, before % 2 * 2 + 1);
            }
        }
    }

    /** Five NODES of four LEGS; WIRE k is of NODE k / 2, its LEGS 0 and 1 or 2 and 3. */
    private static HoloNet tenWires() {
        return told("table t 4" + times(16, " 1") + ";node a t;node b t;node c t;node d t;node e t;"
            + "wire a 0 a 1;wire a 2 a 3;wire b 0 b 1;wire b 2 b 3;wire c 0 c 1;wire c 2 c 3;wire d 0 d 1;wire d 2 d 3;wire e 0 e 1;"
            + "wire e 2 e 3;");
    }

    private static void cutHowMany() {
        HoloNet x = told(NET);
        row("down to none", new int[] {x.cut(2), x.cut(0), x.cut(0), x.cut(0)}, 2, 1, 0, NONE);
        due("WIRES", x.count(4), 0);
        HoloNet ten = tenWires();
        for (int k = 9; k >= 0; k--) {
            due("of 10", ten.cut(k), k);
        }
    }

    private static void cutNone() {
        HoloNet x = told(NET);
        String before = state(x);
        for (int w : NO_WIRE) {
            due("cut(" + w + ")", x.cut(w), NONE);
        }
        for (int w : NEVER) {
            due("cut(" + w + ")", x.cut(w), NONE);
        }
        untouched(x, before);
        due("without WIRES", new HoloNet().cut(0), NONE);
    }

    // ---- promises 30 to 32

    private static void undoLatest() {
        HoloNet x = told(NET);
        String before = state(x);
        act(x, 0);
        String one = state(x);
        act(x, 5);
        x.undo();
        holds("the latest alone", state(x).equals(one));
        act(x, 3);
        x.undo();
        holds("the latest alone", state(x).equals(one));
        x.undo();
        holds("the one ahead of it", state(x).equals(before));
        row("a WIRE that was cut has its number", wireEnds(x, 0), 0, 0, 1, 1);
    }

    private static void undoHowMany() {
        HoloNet x = told(NET);
        for (int k = 0; k < 13; k++) {
            x.scale(0, 2);
        }
        for (int k = 11; k >= 0; k--) {
            due("undo", x.undo(), k);
            due("count(6)", x.count(6), k);
        }
        due("one is left done", x.node(0, 0), 2);
    }

    private static void undoNone() {
        due("of a new object", new HoloNet().undo(), NONE);
        HoloNet x = told(NET);
        String before = state(x);
        due("of a new TEXT", x.undo(), NONE);
        x.scale(0, 2);
        x.undo();
        due("again", x.undo(), NONE);
        due("and again", x.undo(), NONE);
        untouched(x, before);
        x.scale(0, 2);
        due("ACTS count from there", x.count(6), 1);
    }

    private static void keepLaid() {
        HoloNet x = told(NET);
        holds("0", x.keep(0, false));
        holds("1", x.keep(1, false));
        x.scale(0, 2);
        holds("laid over", x.keep(0, false));
        x.scale(0, 2);
        x.keep(0, true);
        due("as it was the last time", x.node(0, 0), 2);
        x.keep(1, true);
        due("the other one", x.node(0, 0), 1);
        holds("without NODES", new HoloNet().keep(1, false));
        HoloNet y = told(NET);
        y.scale(0, 2);
        y.keep(0, false);
        due("an ACT ahead of it is UNDONE", y.undo(), 0);
        due("VALUE", y.node(0, 0), 1);
        y.keep(0, true);
        due("what was laid stays", y.node(0, 0), 2);
    }

    private static void keepBack() {
        HoloNet x = told(NET);
        x.keep(1, false);
        String before = state(x);
        for (int turn = 0; turn < 3; turn++) {
            act(x, 4);
            act(x, 5);
            act(x, 0);
            holds("gone back, turn " + turn, x.keep(1, true));
            holds("as it was", state(x).equals(before));
        }
        holds("twice at once", x.keep(1, true));
        HoloNet empty = new HoloNet();
        holds("without NODES", empty.keep(0, false) && empty.keep(0, true));
    }

    private static void keepNone() {
        HoloNet x = told(NET);
        x.keep(0, false);
        x.keep(1, false);
        x.scale(0, 2);
        for (int k : new int[] {-1, -2, 2, 3}) {
            refused("keep(" + k + ", false)", x.keep(k, false));
            refused("keep(" + k + ", true)", x.keep(k, true));
        }
        for (int k : NEVER) {
            refused("keep(" + k + ", false)", x.keep(k, false));
            refused("keep(" + k + ", true)", x.keep(k, true));
        }
        row("nothing has changed", new int[] {x.node(0, 0), x.count(6)}, 2, 1);
        x.keep(1, true);
        due("nor has KEEP 1", x.node(0, 0), 1);
    }

    private static void keepEmpty() {
        HoloNet x = told(NET);
        x.scale(0, 2);
        refused("0", x.keep(0, true));
        refused("1", x.keep(1, true));
        row("nothing has changed", new int[] {x.node(0, 0), x.count(6)}, 2, 1);
        x.keep(0, false);
        refused("1, though 0 is laid", x.keep(1, true));
        due("ACTS", x.count(6), 1);
        HoloNet y = told(NET);
        y.keep(1, false);
        refused("0, though 1 is laid", y.keep(0, true));
        refused("of a new object", new HoloNet().keep(0, true));
    }

    private static void counts() {
        row("NET", counts(told(NET)), 11, 4, 2, 4, 3, 3, 0, 0);
        row("an empty TEXT", counts(told("")), 7, 0, 0, 0, 0, 0, 0, 0);
        HoloNet x = told("field 97;table t 4" + times(16, " 1") + ";gate a 1 1;gate b 1 1;gate c 1 1;gate d 1 1;gate e 1 1;gate f 1 1;"
            + "gate g 1 1;base h 1 0 0 1;base i 1 0 0 1;base j 1 0 0 1;base k 1 0 0 1;base l 1 0 0 1;"
            + "node m t;node n t;node o t;node p t;node q t;node r t;");
        row("the most of each", counts(x), 97, 8, 5, 6, 0, 24, 0, 0);
        for (int k = 0; k < 10; k++) {
            x.join(k / 2, k % 2 * 2, k / 2, k % 2 * 2 + 1);
        }
        row("10 WIRES", counts(x), 97, 8, 5, 6, 10, 4, 10, 0);
    }

    private static void countsThatMove() {
        HoloNet x = told(NET);
        for (int k = 1; k <= 14; k++) {
            x.scale(0, 2);
            due("ACTS", x.count(6), Math.min(k, 12));
        }
        x.undo();
        due("ACTS", x.count(6), 11);
        for (int k = 1; k <= 36; k++) {
            x.feed(k, k, k, k, k);
            due("bytes", x.count(7), Math.min(20 * k, 700));
        }
        due("WIRES", x.cut(0), 2);
        row("cut", new int[] {x.count(4), x.count(5)}, 2, 5);
    }

    private static void countOthers() {
        HoloNet x = told(NET);
        for (int what : new int[] {-1, -2, 8, 9, 10, 16}) {
            due("count(" + what + ")", x.count(what), NONE);
        }
        for (int what : NEVER) {
            due("count(" + what + ")", x.count(what), NONE);
        }
    }
}
