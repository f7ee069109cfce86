/** Of part 2 of the document's Terms what tells of TABLES, and promises 4 to 15: a test for each sentence with a boundary. */
public final class TableEdgesTest extends Checks {
    /** The cube: POINTS 0 to 7, EDGES where one bit is unlike; each weight is to be put in for w. */
    private static final String CUBE = "gate c 8 4 0 1 w 2 3 w 4 5 w 6 7 w 0 2 w 1 3 w 4 6 w 5 7 w 0 4 w 1 5 w 2 6 w 3 7 w;";
    /** TABLES of one to four LEGS, the last VALUE of each alone not 0; BASES b and c. */
    private static final String FOUR = table("a", sparse(2, 1, 1)) + table("b", sparse(4, 3, 2)) + table("c", sparse(8, 7, 3))
        + table("d", sparse(16, 15, 4)) + "base e 1 1 1 6;base f 1 2 0 1;";
    /** Numbers of TABLES that FOUR has not. */
    private static final int[] NO_TABLE = {-1, -2, 4, 5, 8};
    private static final int[] NO_BASE = {-1, -2, 2, 3, 5};

    public static void main(String[] args) {
        terms();
        tables();
        bases();
        end();
    }

    private static void terms() {
        sentence("Terms 2", "All VALUES are numbers modulo P, told 0 to P - 1.", TableEdgesTest::valuesModuloP);
        sentence("Terms 2", "An INDEX of a TABLE: bits, LEG 0 the lowest.", TableEdgesTest::legZeroIsLowest);
        sentence("Terms 2", "A MATCHING of a graph: EDGES that meet each of its POINTS just once", TableEdgesTest::matchings);
        sentence("Terms 2", "its weight: theirs multiplied (1 of none).", TableEdgesTest::weightsMultiplied);
        sentence("Terms 2", "A gate's TABLE: at an INDEX the weights of all MATCHINGS, together",
            TableEdgesTest::weightsTogether);
        sentence("Terms 2", "of its graph without those of POINTS 0, 1, .. (one a LEG) whose bit is set.",
            TableEdgesTest::pointsTakenOut);
        sentence("Terms 2", "PARITY of a TABLE: EVEN (0), if each VALUE but 0 is at an INDEX with an even number of bits; "
            + "ODD (1) likewise",
            TableEdgesTest::evenAndOdd);
        sentence("Terms 2", "NIL (2), if all are 0", TableEdgesTest::nil);
        sentence("Terms 2", "NONE (3), else.", TableEdgesTest::mixed);
        sentence("Terms 2", "With four LEGS, VALUES f(INDEX): EVEN RULE: f0 f15 - f3 f12 + f5 f10 - f6 f9",
            TableEdgesTest::evenRule);
        sentence("Terms 2", "ODD RULE: f1 f14 - f2 f13 + f4 f11 - f8 f7.", TableEdgesTest::oddRule);
        sentence("Terms 2", "MADE is a TABLE, if its PARITY is not 3 and, with four LEGS, both RULES are 0.",
            TableEdgesTest::whatIsMade);
        sentence("Terms 2", "A LEG is CHANGED by ((a, b), (c, d)): its VALUES u (bit 0), v (bit 1), all other bits alike, "
            + "become a u + b v and c u + d v.",
            TableEdgesTest::legChanged);
        sentence("Terms 2", "BASED is a TABLE by a BASE if each LEG is CHANGED by it.", TableEdgesTest::eachLegChanged);
        sentence("Terms 2", "RANK of a TABLE by some of its LEGS: of the matrix with a row for each setting of those, "
            + "a column for each of the others.",
            TableEdgesTest::rankOfMatrix);
    }

    private static void tables() {
        sentence("Promise 4", "The VALUE of a TABLE at an INDEX", TableEdgesTest::valueAtIndex);
        sentence("Promise 4", "how many LEGS (i NONE)", TableEdgesTest::legsOfTable);
        sentence("Promise 4", "-2: none such.", TableEdgesTest::noSuchTable);
        sentence("Promise 5", "PARITY; NONE: none such.", TableEdgesTest::parity);
        sentence("Promise 6", "The EVEN RULE of a TABLE (odd false), the ODD one", TableEdgesTest::evenOrOddRule);
        sentence("Promise 6", "-2: it has not four LEGS", TableEdgesTest::notFourLegs);
        sentence("Promise 6", "NONE: none such.", TableEdgesTest::identityOfNone);
        sentence("Promise 7", "1 MADE, 0 not; NONE: none such.", TableEdgesTest::made);
        sentence("Promise 8", "1, if the VALUES of a TABLE depend on how many bits are set alone, else 0",
            TableEdgesTest::plainByBits);
        sentence("Promise 8", "NONE: none such.", TableEdgesTest::plainOfNone);
        sentence("Promise 9", "The least f (1 to P - 1) by which each VALUE of a TABLE is f times that of another one",
            TableEdgesTest::leastFactor);
        sentence("Promise 9", "0: none is", TableEdgesTest::noFactor);
        sentence("Promise 9", "not as many LEGS", TableEdgesTest::likeOfOtherLegs);
        sentence("Promise 9", "NONE: none such.", TableEdgesTest::likeOfNone);
        sentence("Promise 10", "RANK by some LEGS (bits)", TableEdgesTest::rankByLegs);
        sentence("Promise 10", "NONE: none such.", TableEdgesTest::rankOfNone);
    }

    private static void bases() {
        sentence("Promise 11", "Of a BASE, what 0 to 3: a to d, 4: ad - bc", TableEdgesTest::partsOfBase);
        sentence("Promise 11", "NoSuchElementException: others", TableEdgesTest::otherParts);
        sentence("Promise 11", "none such.", TableEdgesTest::noSuchBase);
        sentence("Promise 12", "The VALUE of a TABLE BASED by a BASE at an INDEX", TableEdgesTest::basedValue);
        sentence("Promise 12", "NONE: none such.", TableEdgesTest::basedOfNone);
        sentence("Promise 13", "1: MADE is a TABLE BASED by a BASE, 0 not", TableEdgesTest::fitsOrNot);
        sentence("Promise 13", "NONE: none such.", TableEdgesTest::fitsOfNone);
        sentence("Promise 14", "The first BASE by which a TABLE FITS (as fits())", TableEdgesTest::firstBase);
        sentence("Promise 14", "-2: none does", TableEdgesTest::noneFits);
        sentence("Promise 14", "NONE: none such.", TableEdgesTest::firstOfNone);
        sentence("Promise 15", "The first ((1, 1), (x, y)), by x, then y", TableEdgesTest::seekInOrder);
        sentence("Promise 15", "(unlike, 0 to P - 1)", TableEdgesTest::seekUnlike);
        sentence("Promise 15", "by which a TABLE BASED is MADE", TableEdgesTest::seekIsMade);
        sentence("Promise 15", "P x + y", TableEdgesTest::seekByP);
        sentence("Promise 15", "-2: by none", TableEdgesTest::seekByNone);
        sentence("Promise 15", "NONE: none such.", TableEdgesTest::seekOfNone);
    }

    // ---- terms

    private static void valuesModuloP() {
        // f3 f12 is 96 96, taken away: -1 is told as 96.
        HoloNet x = told("field 97;" + table("a", sparse(16, 3, 96, 12, 96)) + table("b", 96, 96)
            + "base m 96 96 0 96;base h 1 0 0 96;gate g 2 1 0 1 96;gate k 4 1 0 1 96 2 3 96 0 2 96 1 3 96;");
        due("a RULE below 0", x.identity(0, false), 96);
        row("BASED", basedValues(x, 1, 0), 2, 1);
        row("BASED", basedValues(x, 1, 1), 96, 1);
        due("ad - bc", x.base(0, 4), 1);
        due("of one EDGE", x.table(2, 0), 0 + 96);
        due("of two MATCHINGS, 1 each", x.table(3, 0), 2);
        HoloNet three = told("field 3;gate k 4 1 0 1 1 2 3 1 0 2 1 1 3 1 0 3 1 1 2 1;");
        due("3 is 0", three.table(0, 0), 0);
    }

    private static void legZeroIsLowest() {
        // A NODE e that is 1 at bit 1 alone picks what its LEG is wired to.
        String head = table("q", 1, 2, 3, 4, 5, 6, 0, 1) + table("e", 0, 1) + "node a q;node b e;";
        row("LEG 0 is 1", sums(told(head + "wire a 0 b 0;")), 2, 4, 6, 1);
        row("LEG 1 is 1", sums(told(head + "wire a 1 b 0;")), 3, 4, 0, 1);
        row("LEG 2 is 1", sums(told(head + "wire a 2 b 0;")), 5, 6, 0, 1);
        // POINT 0 is LEG 0's: the EDGE 1 2 is left alone at INDEX 1.
        row("of a gate", tableValues(told("gate g 3 2 1 2 5;"), 0), 0, 5, 0, 0);
    }

    private static void matchings() {
        due("a star has none", told("gate g 4 1 0 1 1 0 2 1 0 3 1;").table(0, 0), 0);
        due("a POINT without an EDGE", told("gate g 4 1 0 1 1 1 2 1 0 2 1;").table(0, 0), 0);
        due("a path of four", told("gate g 4 1 0 1 2 1 2 3 2 3 2;").table(0, 0), 4);
        due("an odd number of POINTS", told("gate g 7 1 0 1 1 1 2 1 2 3 1 3 4 1 4 5 1 5 6 1 6 0 1;").table(0, 0), 0);
        row("one EDGE", tableValues(told("gate g 2 2 1 0 3;"), 0), 3, 0, 0, 1);
        due("the cube", told("field 97;" + CUBE.replace("w", "1")).table(0, 0), 9);
    }

    private static void weightsMultiplied() {
        due("one EDGE", told("field 97;gate g 2 1 0 1 96;").table(0, 0), 96);
        due("three EDGES", told("field 97;gate g 6 1 0 1 2 2 3 5 4 5 7;").table(0, 0), 70);
        due("four EDGES", told("field 97;gate g 8 1 0 1 2 2 3 5 4 5 7 6 7 3;").table(0, 0), 210 - 194);
        row("of none", tableValues(told("gate g 1 1;"), 0), 0, 1);
        row("of none", tableValues(told("gate g 4 4;"), 0), sparse(16, 15, 1));
        row("POINTS left without an EDGE", tableValues(told("gate g 8 4;"), 0), new int[16]);
    }

    private static void weightsTogether() {
        due("two of a square", told("field 97;gate g 4 1 0 1 2 1 2 3 2 3 4 3 0 5;").table(0, 0), 8 + 15);
        due("three of four POINTS", told("field 97;gate g 4 1 0 1 2 2 3 3 0 2 4 1 3 5 0 3 6 1 2 7;").table(0, 0), 6 + 20 + 42);
        due("9 modulo 7", told(CUBE.replace("w", "1")).table(0, 0), 2);
    }

    private static void pointsTakenOut() {
        int[] cube = sparse(16, 0, 9, 3, 3, 5, 3, 10, 3, 12, 3, 15, 2);
        row("the cube", tableValues(told("field 97;" + CUBE.replace("w", "1")), 0), cube);
        // By weights -1 three EDGES are -1, of two and four EDGES they are 1.
        row("weights P - 1", tableValues(told("field 97;" + CUBE.replace("w", "96")), 0),
            sparse(16, 0, 9, 3, 94, 5, 94, 10, 94, 12, 94, 15, 2));
        row("fewer LEGS than POINTS", tableValues(told("gate g 3 2 0 2 2 1 2 3;"), 0), 0, 3, 2, 0);
        row("one LEG of eight", tableValues(told("gate g 8 1 0 1 1;"), 0), 0, 0);
        row("LEG 3 is of POINT 3", tableValues(told("gate g 4 4 0 1 2 1 2 3 0 2 4;"), 0),
            sparse(16, 9, 3, 10, 4, 12, 2, 15, 1));
    }

    private static void evenAndOdd() {
        for (int i = 0; i < 16; i++) {
            int want = Integer.bitCount(i) % 2;
            due("alone at " + i, told(table("a", sparse(16, i, 6))).parity(0), want);
            if (i < 8) {
                due("alone at " + i + " of 8", told(table("a", sparse(8, i, 1))).parity(0), want);
            }
        }
        HoloNet x = told(table("a", 1, 0) + table("b", 0, 1) + table("c", 1, 0, 0, 1) + table("d", 0, 1, 1, 0)
            + table("e", 1, 0, 0, 1, 0, 1, 1, 0) + table("f", 0, 1, 1, 0, 1, 0, 0, 1));
        row("all of a kind", new int[] {x.parity(0), x.parity(1), x.parity(2), x.parity(3), x.parity(4), x.parity(5)},
            0, 1, 0, 1, 0, 1);
    }

    private static void nil() {
        HoloNet x = told(table("a", new int[2]) + table("b", new int[4]) + table("c", new int[8]) + table("d", new int[16])
            + "gate g 3 1;");
        row("NIL", new int[] {x.parity(0), x.parity(1), x.parity(2), x.parity(3), x.parity(4)}, 2, 2, 2, 2, 2);
    }

    private static void mixed() {
        for (int i = 1; i < 16; i++) {
            int other = Integer.bitCount(i) % 2 == 1 ? 0 : 1;
            due("at " + i + " and " + other, told(table("a", sparse(16, i, 1, other, 1))).parity(0), 3);
        }
        due("one LEG", told(table("a", 1, 1)).parity(0), 3);
    }

    private static void evenRule() {
        int[][] pairs = {{0, 15, 6}, {3, 12, 91}, {5, 10, 6}, {6, 9, 91}};
        for (int[] pair : pairs) {
            HoloNet x = told("field 97;" + table("a", sparse(16, pair[0], 2, pair[1], 3)) + table("b", sparse(16, pair[0], 2)));
            due("of " + pair[0] + " and " + pair[1], x.identity(0, false), pair[2]);
            due("the other one", x.identity(0, true), 0);
            due("of one alone", x.identity(1, false), 0);
        }
        due("of ones", told("table a 4" + times(16, " 1") + ";").identity(0, false), 0);
    }

    private static void oddRule() {
        int[][] pairs = {{1, 14, 6}, {2, 13, 91}, {4, 11, 6}, {8, 7, 91}};
        for (int[] pair : pairs) {
            HoloNet x = told("field 97;" + table("a", sparse(16, pair[0], 2, pair[1], 3)) + table("b", sparse(16, pair[1], 2)));
            due("of " + pair[0] + " and " + pair[1], x.identity(0, true), pair[2]);
            due("the other one", x.identity(0, false), 0);
            due("of one alone", x.identity(1, true), 0);
        }
        due("of ones", told("table a 4" + times(16, " 1") + ";").identity(0, true), 0);
    }

    private static void whatIsMade() {
        HoloNet x = told(table("a", sparse(16, 0, 1, 15, 1)) + table("b", sparse(16, 1, 1, 14, 1))
            + table("c", sparse(16, 0, 1, 15, 1, 3, 1, 12, 1)) + table("d", sparse(16, 0, 1, 1, 1)) + table("e", new int[16])
            + table("f", sparse(16, 8, 1, 7, 1, 4, 1, 11, 1)) + table("g", sparse(16, 0, 2)));
        due("EVEN, its RULE not 0", x.made(0), 0);
        due("ODD, its RULE not 0", x.made(1), 0);
        due("EVEN, its RULE 0", x.made(2), 1);
        due("RULES 0, PARITY 3", x.made(3), 0);
        due("NIL", x.made(4), 1);
        due("ODD, its RULE 0", x.made(5), 1);
        due("one VALUE alone", x.made(6), 1);
        HoloNet y = told(table("a", 1, 0) + table("b", 1, 1) + table("c", 1, 0, 0, 1) + table("d", 1, 1, 0, 0)
            + table("e", 1, 0, 0, 1, 0, 1, 1, 0) + table("f", 0, 1, 1, 0, 1, 0, 0, 1) + table("g", 1, 0, 0, 0, 0, 0, 0, 1)
            + table("h", 0, 0, 0, 0, 0, 0, 0, 0));
        int[] made = {1, 0, 1, 0, 1, 1, 0, 1};
        for (int t = 0; t < 8; t++) {
            due("fewer LEGS, TABLE " + t, y.made(t), made[t]);
        }
    }

    private static void legChanged() {
        HoloNet x = told("field 97;" + table("a", 3, 5) + "base b 2 7 11 13;base c 0 1 1 0;base d 1 0 0 1;");
        row("a u + b v, c u + d v", basedValues(x, 0, 0), 41, 98 - 97);
        row("turned", basedValues(x, 0, 1), 5, 3);
        row("as it was", basedValues(x, 0, 2), 3, 5);
        HoloNet y = told("field 97;" + table("q", 1, 2, 3, 4, 5, 6, 7, 8) + table("e", 1, 1) + "base b 1 10 0 1;node n q;node m e;"
            + "wire n 1 m 0;");
        y.change(0, 0);
        row("LEG 1 alone", nodeValues(y, 0), 31, 42, 3, 4, 75, 86, 7, 8);
    }

    private static void eachLegChanged() {
        // By ((1, 1), (0, 1)) each VALUE is that of all INDEXES together that have its bits and more.
        HoloNet x = told("field 97;" + table("a", 1, 2, 3, 4) + table("b", 1, 1, 1, 1, 1, 1, 1, 1) + "table c 4" + times(16, " 1")
            + ";" + table("d", 1, 2) + "base z 1 1 0 1;");
        row("two LEGS", basedValues(x, 0, 0), 10, 6, 7, 4);
        row("three LEGS", basedValues(x, 1, 0), 8, 4, 4, 2, 4, 2, 2, 1);
        row("four LEGS", basedValues(x, 2, 0), 16, 8, 8, 4, 8, 4, 4, 2, 8, 4, 4, 2, 4, 2, 2, 1);
        row("one LEG", basedValues(x, 3, 0), 3, 2);
    }

    private static void rankOfMatrix() {
        // By LEG 0 the rows are (1, 3), (2, 6), by LEG 1 (1, 2), (3, 6).
        HoloNet x = told("field 97;" + table("a", 1, 2, 3, 6) + table("b", 0, 1, 2, 0) + table("c", 0, 1, 0, 2)
            + table("d", sparse(16, 0, 1, 5, 1, 10, 1, 15, 1)) + table("e", sparse(16, 0, 1, 5, 1, 10, 1)));
        row("one row is the other twice", new int[] {x.rank(0, 1), x.rank(0, 2)}, 1, 1);
        row("zeros on the way", new int[] {x.rank(1, 1), x.rank(1, 2)}, 2, 2);
        row("a row of zeros", new int[] {x.rank(2, 1), x.rank(2, 2)}, 1, 1);
        // d is 1 where LEGS 0, 1 are as LEGS 2, 3.
        row("d", new int[] {x.rank(3, 3), x.rank(3, 12), x.rank(3, 5), x.rank(3, 10), x.rank(3, 6), x.rank(3, 1),
            x.rank(3, 8), x.rank(3, 7), x.rank(3, 14)}, 4, 4, 1, 1, 4, 2, 2, 2, 2);
        row("three of four", new int[] {x.rank(4, 3), x.rank(4, 12), x.rank(4, 5)}, 3, 3, 2);
        for (int power = 0; power <= 3; power++) {
            due("row and column together to the power " + power, told("field 97;" + table("a", powers(power))).rank(0, 3), power + 1);
            due("by the other LEGS", told("field 97;" + table("a", powers(power))).rank(0, 12), power + 1);
        }
        // 2 4 - 1 1 is 7.
        due("modulo 7", told(table("a", 2, 1, 1, 4)).rank(0, 1), 1);
        due("modulo 11", told("field 11;" + table("a", 2, 1, 1, 4)).rank(0, 1), 2);
    }

    /** Of a row by LEGS 0, 1 and a column by LEGS 2, 3: 1 more than both together, to a power. */
    private static int[] powers(int power) {
        int[] values = new int[16];
        for (int i = 0; i < 16; i++) {
            values[i] = 1;
            for (int k = 0; k < power; k++) {
                values[i] = values[i] * ((i & 3) + (i >> 2) + 1) % 97;
            }
        }
        return values;
    }

    // ---- promises 4 to 10

    private static void valueAtIndex() {
        for (int legs = 1; legs <= 4; legs++) {
            int[] values = new int[1 << legs];
            for (int i = 0; i < values.length; i++) {
                values[i] = 96 - 5 * i;
            }
            HoloNet x = told("field 97;table z 1 7 7;" + table("a", values) + "table y 1 7 7;");
            row("VALUES of " + legs + " LEGS", tableValues(x, 1), values);
        }
    }

    private static void legsOfTable() {
        HoloNet x = told(FOUR + "gate g 8 3;gate h 1 1;");
        for (int t = 0; t < 4; t++) {
            due("LEGS", x.table(t, NONE), t + 1);
        }
        due("of a gate", x.table(4, NONE), 3);
        due("of a gate", x.table(5, NONE), 1);
    }

    private static void noSuchTable() {
        HoloNet x = told(FOUR);
        for (int t = 0; t < 4; t++) {
            due("the last INDEX", x.table(t, (2 << t) - 1), t + 1);
            due("behind it", x.table(t, 2 << t), -2);
            due("below NONE", x.table(t, -2), -2);
            for (int i : NEVER) {
                due("table(" + t + ", " + i + ")", x.table(t, i), -2);
            }
        }
        for (int t : NO_TABLE) {
            due("table(" + t + ", 0)", x.table(t, 0), -2);
            due("table(" + t + ", NONE)", x.table(t, NONE), -2);
        }
        for (int t : NEVER) {
            due("table(" + t + ", 0)", x.table(t, 0), -2);
            due("table(" + t + ", NONE)", x.table(t, NONE), -2);
            due("table(" + t + ", " + t + ")", x.table(t, t), -2);
        }
    }

    /** A call of a TABLE's number answers NONE for each that FOUR has not, and not for those it has. */
    private interface OfTable {
        int of(HoloNet x, int table);
    }

    private static void noneForNoTable(String what, OfTable call) {
        HoloNet x = told(FOUR);
        for (int t : NO_TABLE) {
            due(what + " of TABLE " + t, call.of(x, t), NONE);
        }
        for (int t : NEVER) {
            due(what + " of TABLE " + t, call.of(x, t), NONE);
        }
        for (int t = 0; t < 4; t++) {
            holds(what + " of TABLE " + t, call.of(x, t) != NONE);
        }
        due(what + " without TABLES", call.of(new HoloNet(), 0), NONE);
    }

    private static void parity() {
        HoloNet x = told(table("a", 5, 0) + table("b", 0, 5) + table("c", 0, 0) + table("d", 5, 5));
        row("of all kinds", new int[] {x.parity(0), x.parity(1), x.parity(2), x.parity(3)}, 0, 1, 2, 3);
        noneForNoTable("parity", (y, t) -> y.parity(t));
    }

    private static void evenOrOddRule() {
        // f0 f15 is 2, f1 f14 is 12.
        HoloNet x = told("field 97;" + table("a", sparse(16, 0, 1, 15, 2, 1, 3, 14, 4)));
        due("odd false", x.identity(0, false), 2);
        due("odd true", x.identity(0, true), 12);
    }

    private static void notFourLegs() {
        HoloNet x = told(FOUR + "gate g 8 3;gate h 8 4;");
        for (int t = 0; t < 3; t++) {
            due("LEGS " + (t + 1), x.identity(t, false), -2);
            due("LEGS " + (t + 1), x.identity(t, true), -2);
        }
        due("four LEGS", x.identity(3, false), 0);
        due("a gate of three", x.identity(4, false), -2);
        due("a gate of four", x.identity(5, true), 0);
    }

    private static void identityOfNone() {
        noneForNoTable("identity even", (y, t) -> y.identity(t, false));
        noneForNoTable("identity odd", (y, t) -> y.identity(t, true));
    }

    private static void made() {
        HoloNet x = told(table("a", 5, 0) + table("b", 5, 5) + table("c", sparse(16, 5, 1, 10, 1)) + CUBE.replace("c 8", "k 8").replace("w", "1"));
        row("made", new int[] {x.made(0), x.made(1), x.made(2)}, 1, 0, 0);
        // 9 2 - 3 3 + 3 3 - 0 is 18, which is 4: the cube is planar, but its LEGS are told out of turn.
        due("the cube", x.identity(3, false), 4);
        due("the cube", x.made(3), 0);
        noneForNoTable("made", (y, t) -> y.made(t));
    }

    private static void plainByBits() {
        int[] byBits = new int[16];
        for (int i = 0; i < 16; i++) {
            byBits[i] = Integer.bitCount(i) + 1;
        }
        due("four LEGS", told(table("a", byBits)).plain(0), 1);
        for (int i = 0; i < 16; i++) {
            int[] other = byBits.clone();
            other[i] = 0;
            due("unlike at " + i, told(table("a", other)).plain(0), i == 0 || i == 15 ? 1 : 0);
        }
        HoloNet x = told(table("a", 1, 2) + table("b", 0, 0) + table("c", 1, 2, 2, 1) + table("d", 1, 2, 3, 1)
            + table("e", 6, 1, 1, 0, 1, 0, 0, 5) + table("f", 6, 1, 1, 0, 1, 0, 1, 5) + "table g 4" + times(16, " 0") + ";");
        row("fewer LEGS", new int[] {x.plain(0), x.plain(1), x.plain(2), x.plain(3), x.plain(4), x.plain(5), x.plain(6)},
            1, 1, 1, 0, 1, 0, 1);
    }

    private static void plainOfNone() {
        noneForNoTable("plain", (y, t) -> y.plain(t));
    }

    private static void leastFactor() {
        HoloNet x = told("field 97;" + table("a", 1, 2) + table("b", 96, 95) + table("c", 0, 0) + table("d", 2, 4)
            + table("e", 0, 5) + table("f", 0, 1));
        due("P - 1", x.like(1, 0), 96);
        due("P - 1 the other way", x.like(0, 1), 96);
        due("itself", x.like(0, 0), 1);
        due("NIL: the least", x.like(2, 2), 1);
        due("twice", x.like(3, 0), 2);
        due("half", x.like(0, 3), 49);
        due("zeros alike", x.like(4, 5), 5);
        due("zeros alike", x.like(5, 4), 39);
    }

    private static void noFactor() {
        HoloNet x = told(table("a", 1, 2, 3, 4) + table("b", 2, 4, 6, 2) + table("c", 0, 0, 0, 0) + table("d", 0, 2, 3, 4)
            + table("e", 3, 4, 6, 1) + table("f", 2, 4, 6, 1));
        due("the last VALUE", x.like(1, 0), 0);
        due("the last VALUE", x.like(0, 1), 0);
        due("NIL by another one", x.like(2, 0), 0);
        due("by NIL", x.like(0, 2), 0);
        due("a zero more", x.like(3, 0), 0);
        due("the first VALUE", x.like(4, 0), 0);
        due("but this one is", x.like(5, 0), 2);
    }

    private static void likeOfOtherLegs() {
        HoloNet x = told("table a 1 0 0;table b 2 0 0 0 0;" + table("c", new int[8]) + table("d", new int[16]) + table("e", 1, 2)
            + table("f", 1, 2, 0, 0));
        for (int t = 0; t < 4; t++) {
            for (int u = 0; u < 4; u++) {
                due("like(" + t + ", " + u + ")", x.like(t, u), t == u ? 1 : 0);
            }
        }
        row("VALUES alike as far as there are", new int[] {x.like(4, 5), x.like(5, 4)}, 0, 0);
    }

    private static void likeOfNone() {
        noneForNoTable("like, first", (y, t) -> y.like(t, 0));
        noneForNoTable("like, other", (y, t) -> y.like(0, t));
        noneForNoTable("like, both", (y, t) -> y.like(t, t));
    }

    private static void rankByLegs() {
        HoloNet x = told(FOUR + table("g", 0, 0) + table("h", sparse(16, 0, 1, 5, 1, 10, 1, 15, 1)));
        for (int t = 0; t < 4; t++) {
            due("by none", x.rank(t, 0), 1);
            due("by all", x.rank(t, (2 << t) - 1), 1);
        }
        row("NIL", new int[] {x.rank(4, 0), x.rank(4, 1)}, 0, 0);
        for (int legs = 0; legs < 16; legs++) {
            // LEGS 0 and 2 are alike, and so are 1 and 3: a row parts each pair of which it has one.
            int parted = ((legs ^ legs >> 2) & 1) + ((legs >> 1 ^ legs >> 3) & 1);
            due("rank(5, " + legs + ")", x.rank(5, legs), 1 << parted);
        }
    }

    private static void rankOfNone() {
        noneForNoTable("rank", (y, t) -> y.rank(t, 0));
        HoloNet x = told(FOUR);
        for (int t = 0; t < 4; t++) {
            due("one LEG too many", x.rank(t, 2 << t), NONE);
            due("one LEG too many, others", x.rank(t, (4 << t) - 1), NONE);
            due("-1", x.rank(t, -1), NONE);
            due("-2", x.rank(t, -2), NONE);
            for (int legs : NEVER) {
                due("rank(" + t + ", " + legs + ")", x.rank(t, legs), NONE);
            }
        }
    }

    // ---- promises 11 to 15

    private static void partsOfBase() {
        HoloNet x = told("field 97;base a 0 1 2 3;base b 96 95 94 93;base c 1 0 0 96;base d 0 1 1 0;base e 10 1 2 10;");
        // Of b -1 -4 less -2 -3, which is -2; of e 100 less 2, which is 1.
        int[][] want = {{0, 1, 2, 3, 95}, {96, 95, 94, 93, 95}, {1, 0, 0, 96, 96}, {0, 1, 1, 0, 96}, {10, 1, 2, 10, 1}};
        for (int b = 0; b < 5; b++) {
            for (int what = 0; what < 5; what++) {
                due("base(" + b + ", " + what + ")", x.base(b, what), want[b][what]);
            }
        }
    }

    private static void otherParts() {
        HoloNet x = told(FOUR);
        for (int b = 0; b < 2; b++) {
            int base = b;
            for (int what : new int[] {-1, -2, 5, 6}) {
                throwsNone("base(" + b + ", " + what + ")", () -> x.base(base, what));
            }
            for (int what : NEVER) {
                throwsNone("base(" + b + ", " + what + ")", () -> x.base(base, what));
            }
        }
        due("behind it all is as ever", x.base(1, 1), 2);
    }

    private static void noSuchBase() {
        HoloNet x = told(FOUR);
        for (int b : NO_BASE) {
            for (int what = -1; what <= 5; what++) {
                int part = what;
                throwsNone("base(" + b + ", " + what + ")", () -> x.base(b, part));
            }
        }
        for (int b : NEVER) {
            throwsNone("base(" + b + ", 0)", () -> x.base(b, 0));
        }
        throwsNone("without BASES", () -> told("table a 1 0 0;").base(0, 0));
        due("the last one", told("base a 1 0 0 1;base b 1 0 0 1;base c 1 0 0 1;base d 1 0 0 1;base e 1 0 0 5;").base(4, 3), 5);
    }

    private static void basedValue() {
        HoloNet x = told(FOUR);
        // By e, ((1, 1), (1, 6)), the last VALUE of all LEGS changes its sign by each bit.
        for (int t = 0; t < 4; t++) {
            for (int i = 0; i < 2 << t; i++) {
                int value = t + 1;
                due("based(" + t + ", 0, " + i + ")", x.based(t, 0, i), Integer.bitCount(i) % 2 == 0 ? value : 7 - value);
            }
            // By f, ((1, 2), (0, 1)), it is 2 times as much for each bit that isn't set.
            due("based(" + t + ", 1, 0)", x.based(t, 1, 0), (t + 1) * (2 << t) % 7);
            due("the TABLE stays", x.table(t, (2 << t) - 1), t + 1);
        }
    }

    private static void basedOfNone() {
        noneForNoTable("based", (y, t) -> y.based(t, 0, 0));
        HoloNet x = told(FOUR);
        for (int b : NO_BASE) {
            due("based(0, " + b + ", 0)", x.based(0, b, 0), NONE);
        }
        for (int never : NEVER) {
            due("based(0, " + never + ", 0)", x.based(0, never, 0), NONE);
            due("based(3, 0, " + never + ")", x.based(3, 0, never), NONE);
        }
        for (int t = 0; t < 4; t++) {
            due("behind the last INDEX", x.based(t, 0, 2 << t), NONE);
            due("i NONE", x.based(t, 0, NONE), NONE);
            due("i -2", x.based(t, 0, -2), NONE);
        }
        due("without BASES", told("table a 1 0 0;").based(0, 0, 0), NONE);
    }

    /** EVEN by ((1, 1), (1, 6)) and by its like alone, with 2 at INDEXES 0, 3 and 12: its RULE is not 0. */
    private static String unruly(String name) {
        return table(name, 3, 1, 1, 3, 1, 6, 6, 1, 1, 6, 6, 1, 3, 1, 1, 3);
    }

    private static void fitsOrNot() {
        HoloNet x = told(table("a", 1, 1) + table("b", 1, 0, 0, 0) + table("c", sparse(16, 0, 1, 15, 1)) + unruly("d")
            + table("e", 0, 0) + "base i 1 0 0 1;base h 1 1 1 6;");
        row("a by i, h", new int[] {x.fits(0, 0), x.fits(0, 1)}, 0, 1);
        row("b by i, h", new int[] {x.fits(1, 0), x.fits(1, 1)}, 1, 0);
        // By h it is 2 at each INDEX with an even number of bits: 4 - 4 + 4 - 4.
        row("c by i, h", new int[] {x.fits(2, 0), x.fits(2, 1)}, 0, 1);
        row("d by i, h", new int[] {x.fits(3, 0), x.fits(3, 1)}, 0, 0);
        row("NIL", new int[] {x.fits(4, 0), x.fits(4, 1)}, 1, 1);
    }

    private static void fitsOfNone() {
        noneForNoTable("fits", (y, t) -> y.fits(t, 0));
        HoloNet x = told(FOUR);
        for (int b : NO_BASE) {
            due("fits(0, " + b + ")", x.fits(0, b), NONE);
        }
        for (int b : NEVER) {
            due("fits(0, " + b + ")", x.fits(0, b), NONE);
            due("fits(" + b + ", " + b + ")", x.fits(b, b), NONE);
        }
    }

    private static void firstBase() {
        HoloNet x = told(table("a", 1, 1) + table("b", 1, 0) + table("c", 0, 0) + table("d", 3, 4)
            + "base i 1 0 0 1;base k 1 2 3 5;base h 1 1 1 6;base l 1 6 1 1;base m 4 4 1 2;");
        due("the third, the fourth would do, too", x.first(0), 2);
        due("the first of all", x.first(1), 0);
        due("NIL", x.first(2), 0);
        // By k it is 11 and 29, by h 7 and 27, so ODD; by m 28 and 11 it would be, too.
        due("h ahead of m", x.first(3), 2);
        HoloNet y = told(table("d", 1, 2) + "base i 1 0 0 1;base h 1 1 1 6;base k 1 2 3 4;base l 2 1 1 1;base m 5 1 1 2;");
        // By m 5 + 2 is 7: the last one alone.
        due("the last one", y.first(0), 4);
        due("fits as fits()", y.fits(0, 4), 1);
    }

    private static void noneFits() {
        HoloNet x = told(table("a", 1, 2) + unruly("d") + "base i 1 0 0 1;base h 1 1 1 6;");
        due("by none of two", x.first(0), -2);
        due("by a RULE", x.first(1), -2);
        due("without BASES", told(table("a", 1, 0)).first(0), -2);
        due("without BASES", told(table("a", 0, 0)).first(0), -2);
    }

    private static void firstOfNone() {
        noneForNoTable("first", (y, t) -> y.first(t));
        due("without BASES", told("table a 1 0 0;").first(1), NONE);
    }

    private static void seekInOrder() {
        // One LEG, u and v: u + v or x u + y v must be 0.
        HoloNet x = told(table("a", 0, 0) + table("b", 1, 0) + table("c", 3, 4) + table("d", 0, 5) + table("e", 5, 1)
            + table("f", 1, 2) + table("g", 1, 1));
        due("NIL: 0, 1", x.seek(0), 1);
        due("v is 0: 0, 1", x.seek(1), 1);
        due("u + v is 0: 0, 1", x.seek(2), 1);
        due("u is 0: 1, 0", x.seek(3), 7);
        due("1, 2", x.seek(4), 9);
        due("1, 3", x.seek(5), 10);
        due("1, 6", x.seek(6), 13);
        due("asked again", x.seek(5), 10);
    }

    private static void seekUnlike() {
        // Alike ones would do at once: by (0, 0) each TABLE is EVEN, so 0 would be the answer of all.
        HoloNet x = told("field 3;" + table("a", 1, 2) + table("b", 1, 1) + table("c", 2, 1) + table("d", 0, 1));
        row("by 3", new int[] {x.seek(0), x.seek(1), x.seek(2), x.seek(3)}, 1, 5, 1, 3);
        HoloNet y = told("field 97;" + table("a", 1, 1) + table("b", 96, 1) + table("c", 95, 1) + table("d", 1, 48));
        // y is - u / v: -1, none as u + v is 0, 2; of d - 1 / 48 is 2, as 2 48 is -1.
        row("by 97", new int[] {y.seek(0), y.seek(1), y.seek(2), y.seek(3)}, 97 + 96, 1, 97 + 2, 97 + 2);
    }

    private static void seekIsMade() {
        HoloNet x = told(table("a", sparse(16, 0, 1, 15, 1)) + table("b", 1, 0, 0, 1) + table("c", sparse(8, 0, 1, 7, 1))
            + "table d 4" + times(16, " 1") + ";" + table("e", sparse(16, 0, 2)));
        // Of a with k bits x^k + y^k: 2 at none, so x + y must be 0.
        due("four LEGS", x.seek(0), 7 + 6);
        due("two LEGS", x.seek(1), 7 + 6);
        due("three LEGS", x.seek(2), 7 + 6);
        due("ones", x.seek(3), 7 + 6);
        due("at 0 alone: x may be 0", x.seek(4), 1);
    }

    private static void seekByP() {
        String text = table("a", 1, 1) + table("b", 0, 1);
        HoloNet x = told(text);
        for (int p : new int[] {3, 5, 11, 89, 97, 7}) {
            tell(x, "field " + p + ";" + text);
            due("by " + p, x.seek(0), p + p - 1);
            due("by " + p, x.seek(1), p);
        }
    }

    private static void seekByNone() {
        // Its sum is 6: 4 x + 2 y and 3 x + 3 y must both be 0, so x and y are 0, alike.
        due("two LEGS", told(table("a", 1, 2, 3, 0)).seek(0), -2);
        due("two LEGS by 97", told("field 97;" + table("a", 1, 2, 3, 0)).seek(0), -2);
        // By (1, 6) alone it is EVEN, and there its RULE is not 0.
        due("by a RULE", told(unruly("a")).seek(0), -2);
        HoloNet x = told(table("a", 1, 2, 3, 0) + table("b", 1, 1));
        row("again and another one", new int[] {x.seek(0), x.seek(0), x.seek(1), x.seek(0)}, -2, -2, 13, -2);
    }

    private static void seekOfNone() {
        noneForNoTable("seek", (y, t) -> y.seek(t));
        due("without BASES it is sought all the same", told(table("a", 1, 1)).seek(0), 13);
    }
}
