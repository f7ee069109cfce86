import java.util.ArrayList;
import java.util.Arrays;
import java.util.List;

/** Part 1 of the document's Terms, and promises 1 to 3: a test for each sentence that names a boundary. */
public final class TextEdgesTest extends Checks {
    private static final String[] KEYWORDS = {"field", "table", "gate", "base", "node", "wire"};
    private static final int[] PRIMES = {3, 5, 7, 11, 13, 17, 19, 23, 29, 31, 37, 41, 43, 47, 53, 59, 61, 67, 71, 73,
        79, 83, 89, 97};
    /** Each kind of LINE, with a blank between TOKENS and none at the end. */
    private static final String EACH_LINE = "field 7 ; table a 2 0 1 2 3 ; gate g 2 1 0 1 3 ; base b 1 0 0 1 ; "
        + "node n a ; node m g ; wire n 0 m 0 ;";
    /** TABLE a of two LEGS, BASE b, NODES n and m. */
    private static final String SOME = "table a 2 0 0 0 0;base b 1 0 0 1;node n a;node m a;";

    public static void main(String[] args) {
        terms();
        counts();
        faults();
        promises();
        end();
    }

    private static void terms() {
        sentence("Terms 1", "THE TAPE has 700 bytes.", TextEdgesTest::tapeHas700);
        sentence("Terms 1", "Blanks, 32, 10, part TOKENS and mean nothing else", TextEdgesTest::blanks);
        sentence("Terms 1", "WORDS (small letters, each that stand together; 1 to 6)", TextEdgesTest::words);
        sentence("Terms 1", "NUMBERS (digits, likewise; 1 or 2)", TextEdgesTest::numbers);
        sentence("Terms 1", "; alone", TextEdgesTest::semicolons);
        sentence("Terms 1", "(longer ones, all else are no TOKENS)", TextEdgesTest::noTokens);
        sentence("Terms 1", "TEXT: [ field NUMBER ; ] { LINE }.", TextEdgesTest::textOfLines);
        sentence("Terms 1", "field: P, a prime 3 to 97 (7 without).", TextEdgesTest::field);
        sentence("Terms 1", "LINE: table NAME NUMBER { NUMBER } ;", TextEdgesTest::tokensOfTable);
        sentence("Terms 1", "| gate NAME NUMBER NUMBER { NUMBER NUMBER NUMBER } ;", TextEdgesTest::tokensOfGate);
        sentence("Terms 1", "| base NAME NUMBER NUMBER NUMBER NUMBER ;", TextEdgesTest::tokensOfBase);
        sentence("Terms 1", "| node NAME NAME ;", TextEdgesTest::tokensOfNode);
        sentence("Terms 1", "| wire NAME NUMBER NAME NUMBER ;", TextEdgesTest::tokensOfWire);
        sentence("Terms 1", "A NAME is a WORD but field, table, gate, base, node, wire", TextEdgesTest::namesAreNoKeywords);
        sentence("Terms 1", "no two are alike", TextEdgesTest::namesAreUnlike);
    }

    private static void counts() {
        sentence("Terms 1", "(how many LEGS, 1 to 4, then 2, 4, 8 or 16 VALUES)", TextEdgesTest::tableLine);
        sentence("Terms 1", "(POINTS 1 to 8; LEGS 1 to 4, no more than POINTS", TextEdgesTest::pointsAndLegs);
        sentence("Terms 1", "EDGES, 12 at most", TextEdgesTest::twelveEdges);
        sentence("Terms 1", "two unlike POINTS, from 0 on, no two twice", TextEdgesTest::edgePoints);
        sentence("Terms 1", "and a weight 1 to P - 1", TextEdgesTest::edgeWeights);
        sentence("Terms 1", "(a, b, c, d; 5 at most)", TextEdgesTest::baseLine);
        sentence("Terms 1", "(a TABLE; 6 at most)", TextEdgesTest::nodeLine);
        sentence("Terms 1", "(two LEGS of NODES, from 0 on, unlike, no LEG twice; 10 at most)", TextEdgesTest::wireLine);
        sentence("Terms 1", "VALUES, a to d: 0 to P - 1.", TextEdgesTest::valuesBelowP);
        sentence("Terms 1", "Tables and gates, 8 at most together, are TABLES", TextEdgesTest::eightTables);
        sentence("Terms 1", "TABLES, BASES, NODES, WIRES are numbered as told.", TextEdgesTest::numberedAsTold);
    }

    private static void faults() {
        sentence("Terms 1", "FAULTS, the one whose place is least", TextEdgesTest::leastPlace);
        sentence("Terms 1", "of one place the first of this list", TextEdgesTest::firstOfTheList);
        sentence("Terms 1", "1 the first byte that begins no TOKEN", TextEdgesTest::byteThatBeginsNone);
        sentence("Terms 1", "TOKEN with which no TEXT goes on (its first byte", TextEdgesTest::unfitToken);
        sentence("Terms 1", "the end: how many bytes there are)", TextEdgesTest::unfitEnd);
        sentence("Terms 1", "2 a NAME given that is there", TextEdgesTest::nameGivenTwice);
        sentence("Terms 1", "the second POINT of an EDGE that is there", TextEdgesTest::edgeTwice);
        sentence("Terms 1", "a LEG that has a WIRE (also the first one of its own)", TextEdgesTest::legTwice);
        sentence("Terms 1", "3 a NAME that is none told ahead", TextEdgesTest::nameNotAhead);
        sentence("Terms 1", "or none of what must stand there", TextEdgesTest::nameOfAnotherKind);
        sentence("Terms 1", "4 a NUMBER that can't be", TextEdgesTest::numberThatCannotBe);
        sentence("Terms 1", "(also a second POINT like the first one", TextEdgesTest::secondPointLikeFirst);
        sentence("Terms 1", "the d by which ad - bc is 0)", TextEdgesTest::noInverse);
        sentence("Terms 1", "5 the WORD table, gate, base, node, wire of one too many", TextEdgesTest::wordOfOneTooMany);
        sentence("Terms 1", "the first POINT of an EDGE too many.", TextEdgesTest::edgeTooMany);
    }

    private static void promises() {
        sentence("Terms", "The constants: `NONE = -1`: None.", () -> due("NONE", HoloNet.NONE, -1));
        sentence("Promise 1", "P is 7; no TABLES, no NODES.", TextEdgesTest::newObject);
        sentence("Promise 2", "Twenty bytes come behind THE TAPE", TextEdgesTest::twentyBytes);
        sentence("Promise 2", "of each number the highest first", TextEdgesTest::highestFirst);
        sentence("Promise 2", "how many it has", TextEdgesTest::feedTellsHowMany);
        sentence("Promise 2", "NONE, and none come, if it would have more than 700.", TextEdgesTest::feedBeyond700);
        sentence("Promise 3", "The first n bytes of THE TAPE", TextEdgesTest::firstBytesAlone);
        sentence("Promise 3", "(it is empty then)", TextEdgesTest::tapeIsEmptyThen);
        sentence("Promise 3", "are the TEXT from now on", TextEdgesTest::textFromNowOn);
        sentence("Promise 3", "how many LINES (field, too)", TextEdgesTest::howManyLines);
        sentence("Promise 3", "nothing can be UNDONE", TextEdgesTest::nothingUndoneAfterNet);
        sentence("Promise 3", "nothing is KEPT.", TextEdgesTest::nothingKeptAfterNet);
        sentence("Promise 3", "NONE: it has not so many", TextEdgesTest::notSoMany);
        sentence("Promise 3", "n is below 0", TextEdgesTest::belowZero);
        sentence("Promise 3", "(THE TAPE stays).", TextEdgesTest::tapeStays);
        sentence("Promise 3", "-2 less (8 * place + kind): a FAULT", TextEdgesTest::faultNumbers);
        sentence("Promise 3", "(all else stays).", TextEdgesTest::allElseStays);
        sentence("What it is", "An object is used for at most 512 calls after it has been made", TextEdgesTest::use512Calls);
    }

    // ---- tokens

    private static void tapeHas700() {
        due("the last byte counts", tell(new HoloNet(), times(699, " ") + "?"), faultAt(699, 1));
        lines(2, "table a 1 0 0;" + times(672, " ") + "table b 1 0 0;");
        due("a WORD up to the end", tell(new HoloNet(), times(695, " ") + "table"), faultAt(700, 1));
        due("a NUMBER up to the end", tell(new HoloNet(), times(692, " ") + "field 11"), faultAt(700, 1));
        lines(0, times(700, " "));
    }

    private static void blanks() {
        lines(0, " ");
        lines(0, "\n");
        lines(1, "\n\n table\na \n1  0\n\n0 ; \n");
        fault(1, "^ta ble a 1 0 0;");
        fault(1, "^ta\nble a 1 0 0;");
        fault(1, "table a 1 1 2 ^3;");
        fault(1, "table a 1 01^;");
        for (char other : new char[] {0, 1, 9, 11, 12, 13, 31, 33, 127, 160}) {
            fault(1, "table^" + other + "a 1 0 0;");
            fault(1, "table a 1 0^" + other + "0;");
            fault(1, "^" + other);
        }
    }

    private static void words() {
        lines(1, "table a 1 0 0;");
        lines(1, "table z 1 0 0;");
        lines(1, "table azazaz 1 0 0;");
        fault(1, "table ^azazaza 1 0 0;");
        fault(1, "table ^" + times(40, "a") + " 1 0 0;");
        fault(1, "^tablea 1 0 0;");
        lines(2, "table a1 0 0;node n a;");
        lines(4, "table a1 0 0;node n a;node k a;wire n0k0;");
        lines(8, "table a 1 0 0;gate aa 1 1;gate aaa 1 1;gate aaaa 1 1;gate aaaaa 1 1;gate aaaaaa 1 1;"
            + "gate baaaaa 1 1;gate aaaaab 1 1;");
        fault(2, "gate zyxwvu 1 1;gate ^zyxwvu 1 1;");
        for (String word : new String[] {"aaaaaa", "zzzzzz", "mpapzo"}) {
            wordsThatPartAtOneLetter(word);
        }
        fault(1, "table ^A 1 0 0;");
        fault(1, "table a^B 1 0 0;");
        fault(1, "table a^` 1 0 0;");
        fault(1, "table a^{ 1 0 0;");
    }

    private static void wordsThatPartAtOneLetter(String word) {
        for (int k = 0; k < 6; k++) {
            for (char letter = 'a'; letter <= 'z'; letter++) {
                String other = word.substring(0, k) + letter + word.substring(k + 1);
                if (!other.equals(word)) {
                    lines(2, "gate " + word + " 1 1;gate " + other + " 1 1;");
                }
            }
            if (k > 0) {
                lines(2, "gate " + word + " 1 1;gate " + word.substring(k) + " 1 1;");
                lines(2, "gate " + word + " 1 1;gate " + word.substring(0, k) + " 1 1;");
                lines(2, "gate a" + word.substring(k) + " 1 1;gate " + word.substring(k) + " 1 1;");
            }
        }
    }

    private static void numbers() {
        lines(1, "field 97;");
        lines(1, "table a 01 00 06;");
        lines(1, "table a 1 6 0;");
        fault(1, "table a 1 ^000 0;");
        fault(1, "table a 1 0 ^001;");
        fault(1, "field ^007;");
        fault(1, "field ^" + times(30, "9") + ";");
        // The letters of "gate" in five bits each are 231045: no NUMBER is taken for a WORD by that.
        fault(1, "^231045 a 1 1;");
        lines(1, "table a 4 0 1 2 3 4 5 6 06 05 04 03 02 01 00 0 1;");
        due("two digits, the tens first", told("field 31;" + table("a", 12, 21)).table(0, 0), 12);
        fault(1, "table a 1 0^/ 0;");
        fault(1, "table a 1 0^: 0;");
        fault(1, "table a 1 0^.0;");
        fault(1, "table a 1 ^-0 0;");
    }

    private static void semicolons() {
        lines(2, "table a 1 0 0;table b 1 0 0;");
        lines(2, "table a 1 0 0\n;table b 1 0 0 ;");
        fault(1, "^;");
        fault(1, "table a 1 0 0;^;");
        fault(1, "table a 1 0 0; ^;");
        fault(1, "field 7;^;");
        fault(1, "table^; a 1 0 0;");
    }

    private static void noTokens() {
        for (int b = 0; b < 256; b++) {
            boolean letter = b >= 'a' && b <= 'z';
            boolean blank = b == 32 || b == 10;
            int asName = tell(new HoloNet(), "table " + (char) b + " 1 0 0;");
            due("byte " + b + " as a NAME", asName, letter ? 1 : faultAt(blank ? 8 : 6, 1));
            int asValue = tell(new HoloNet(), "table a 1 0 " + (char) b + ";");
            boolean digit = b >= '0' && b <= '9';
            int otherwise = digit ? faultAt(12, 4) : faultAt(blank ? 13 : 12, 1);
            due("byte " + b + " as a VALUE", asValue, digit && b <= '6' ? 1 : otherwise);
            int atTheEnd = tell(new HoloNet(), "table a 1 0 0;" + (char) b);
            due("byte " + b + " behind all", atTheEnd, blank ? 1 : faultAt(14, 1));
        }
        fault(1, "table ^abcdefg 1 0 0;");
        fault(1, "table a 1 ^100 0;");
    }

    private static void textOfLines() {
        lines(0, "");
        lines(1, "field 7;");
        lines(2, "field 7;table a 1 0 0;");
        fault(1, "field 7;^field 7;");
        fault(1, "table a 1 0 0;^field 7;");
        fault(1, "^7;");
        fault(1, "^line a;");
        fault(1, "field^;");
        fault(1, "field 7 ^7;");
        fault(1, "field ^seven;");
    }

    private static void tokensOfTable() {
        tokensOf("", "table k 1 2 3 ;");
        tokensOf("", "table k 2 0 1 2 3 ;");
        tokensOf(SOME, "table k 3 6 5 4 3 2 1 0 6 ;");
    }

    private static void tokensOfGate() {
        tokensOf("", "gate k 3 2 ;");
        tokensOf("", "gate k 3 2 0 1 6 ;");
        tokensOf(SOME, "gate k 4 1 0 1 6 1 2 5 3 0 1 ;");
        // An EDGE has three NUMBERS: neither one nor two are one.
        fault(1, "gate k 3 2 0 1 6 1 ^;");
        fault(1, "gate k 3 2 0 1 6 1 2 ^;");
    }

    private static void tokensOfBase() {
        tokensOf("", "base k 1 2 3 4 ;");
        tokensOf(SOME, "base k 6 5 4 3 ;");
        fault(1, "base k 1 2 3 4 ^5 ;");
    }

    private static void tokensOfNode() {
        tokensOf(SOME, "node k a ;");
        tokensOf("gate g 1 1;", "node k g ;");
        fault(1, SOME + "node k a ^0 ;");
        fault(1, SOME + "node k ^0 a ;");
    }

    private static void tokensOfWire() {
        tokensOf(SOME, "wire n 0 m 1 ;");
        tokensOf(SOME, "wire m 1 m 0 ;");
        fault(1, SOME + "wire n ^m 0 1 ;");
        fault(1, SOME + "wire n 0 m 1 ^1 ;");
    }

    /**
     * A good LINE behind others: it is taken, with blanks and with none that can be left out; a TOKEN
     * of another sort in place of each one is a FAULT there, and so is the end.
     */
    private static void tokensOf(String ahead, String line) {
        int linesAhead = tell(new HoloNet(), ahead);
        lines(linesAhead + 1, ahead + line);
        lines(linesAhead + 1, ahead + line.replace(" ;", ";"));
        lines(linesAhead + 2, ahead + line + "table kk 1 0 0;");
        String[] parts = line.split(" ");
        for (int k = 0; k < parts.length; k++) {
            String head = ahead + joined(parts, k);
            if (k > 0) {
                fault(1, head + "^");
            }
            for (String other : new String[] {"q", "1", ";", "field", "wire"}) {
                if (!mayStand(other, parts, k, ahead.isEmpty())) {
                    fault(1, head + "^" + other + " ;");
                }
            }
        }
    }

    private static boolean mayStand(String token, String[] parts, int k, boolean atTheFirst) {
        if (k == 0) {
            return token.equals("wire") || (token.equals("field") && atTheFirst);
        }
        // Behind a gate's LEGS and behind each EDGE both the next EDGE and the end may stand.
        boolean edgeOrEnd = parts[0].equals("gate") && k >= 4 && (k - 4) % 3 == 0;
        return edgeOrEnd ? !Character.isLetter(token.charAt(0)) : sort(token).equals(sort(parts[k]));
    }

    private static String sort(String token) {
        if (Arrays.asList(KEYWORDS).contains(token)) {
            return "keyword";
        }
        return Character.isLetter(token.charAt(0)) ? "name" : token.equals(";") ? ";" : "number";
    }

    private static void field() {
        for (int p = 0; p < 100; p++) {
            HoloNet x = new HoloNet();
            boolean good = Arrays.binarySearch(PRIMES, p) >= 0;
            due("field " + p, tell(x, "field " + p + ";"), good ? 1 : faultAt(6, 4));
            due("P told as " + p, x.count(0), good ? p : 7);
        }
        HoloNet x = told("field 97;");
        tell(x, "");
        due("P without", x.count(0), 7);
    }

    private static void namesAreNoKeywords() {
        for (String keyword : KEYWORDS) {
            fault(1, "table ^" + keyword + " 1 0 0;");
            fault(1, "gate ^" + keyword + " 1 1;");
            fault(1, "base ^" + keyword + " 1 0 0 1;");
            fault(1, SOME + "node ^" + keyword + " a;");
            fault(1, SOME + "node k ^" + keyword + ";");
            fault(1, SOME + "wire ^" + keyword + " 0 n 1;");
            fault(1, SOME + "wire n 0 ^" + keyword + " 1;");
            String part = keyword.substring(1);
            lines(2, "table " + part + " 1 0 0;node x " + part + ";");
        }
        lines(4, "table fields 1 0 0;gate tables 1 1;base bases 1 0 0 1;node nodes tables;");
    }

    private static void namesAreUnlike() {
        String[] first = {"table x 1 0 0;", "gate x 1 1;", "base x 1 0 0 1;", "table t 1 0 0;node x t;"};
        String[] again = {"table ^x 1 0 0;", "gate ^x 1 1;", "base ^x 1 0 0 1;", "node ^x x;"};
        for (String ahead : first) {
            for (String line : again) {
                fault(2, ahead + line);
            }
        }
        // A name is given even by the line that it begins.
        fault(3, "table t 1 0 0;node x ^x;");
    }

    // ---- counts and bounds

    private static void tableLine() {
        for (int legs = 0; legs < 100; legs++) {
            if (legs < 1 || legs > 4) {
                fault(4, "table a ^" + legs + times(16, " 0") + ";");
            }
        }
        for (int legs = 1; legs <= 4; legs++) {
            int size = 1 << legs;
            String head = "table a " + legs;
            lines(1, head + times(size, " 0") + ";");
            due("LEGS", told(head + times(size, " 0") + ";").table(0, NONE), legs);
            fault(1, head + times(size - 1, " 0") + " ^;");
            fault(1, head + " ^;");
            fault(1, head + times(size, " 0") + " ^0;");
        }
    }

    private static void pointsAndLegs() {
        for (int points = 0; points <= 20; points++) {
            for (int legs = 0; legs <= 20; legs++) {
                if (points < 1 || points > 8) {
                    fault(4, "gate g ^" + points + " " + legs + ";");
                } else if (legs < 1 || legs > 4 || legs > points) {
                    fault(4, "gate g " + points + " ^" + legs + ";");
                } else {
                    lines(1, "gate g " + points + " " + legs + ";");
                    due("LEGS", told("gate g " + points + " " + legs + ";").table(0, NONE), legs);
                }
            }
        }
        fault(4, "gate g ^99 1;");
        fault(4, "gate g 8 ^99;");
    }

    /** The head of a gate with eight POINTS and so many EDGES. */
    private static String manyEdges(int edges) {
        StringBuilder text = new StringBuilder("gate g 8 4");
        int told = 0;
        for (int point = 0; point < 8; point++) {
            for (int other = point + 1; other < 8 && told < edges; other++) {
                text.append(' ').append(point).append(' ').append(other).append(" 1");
                told++;
            }
        }
        return text.toString();
    }

    private static void twelveEdges() {
        for (int edges = 0; edges <= 12; edges++) {
            lines(1, manyEdges(edges) + ";");
        }
        // The 13th of them is 1 7: EDGES of POINT 0 are seven, of POINT 1 six more.
        fault(5, manyEdges(12) + " ^1 7 1;");
        fault(5, manyEdges(12) + " ^6 7 1;");
        due("the 12th counts", told("gate g 8 1 0 1 1 0 2 1 0 3 1 0 4 1 0 5 1 0 6 1 2 4 1 2 6 1 4 6 1 2 3 1 4 5 1 6 7 1;")
            .table(0, 0), 1);
    }

    private static void edgePoints() {
        lines(1, "gate g 2 1 0 1 1;");
        lines(1, "gate g 2 1 1 0 1;");
        lines(1, "gate g 8 1 7 6 1 0 7 1;");
        for (int points = 1; points <= 8; points++) {
            String head = "gate g " + points + " 1 ";
            fault(4, head + "^" + points + " 0 1;");
            fault(4, head + "0 ^" + points + " 1;");
            fault(4, head + (points - 1) + " ^" + (points - 1) + " 1;");
        }
        fault(4, "gate g 2 1 0 ^0 1;");
        fault(2, "gate g 2 1 0 1 1 0 ^1 1;");
        fault(2, "gate g 2 1 0 1 1 1 ^0 1;");
        fault(2, "gate g 4 1 0 1 1 2 3 1 1 3 1 3 ^2 1;");
    }

    private static void edgeWeights() {
        for (int p : PRIMES) {
            String head = "field " + p + ";gate g 2 1 0 1 ";
            lines(2, head + "1;");
            lines(2, head + (p - 1) + ";");
            fault(4, head + "^0;");
            fault(4, head + "^" + p + ";");
            fault(4, head + "^99;");
        }
        fault(4, "gate g 2 1 0 1 ^7;");
    }

    private static String bases(int n) {
        StringBuilder text = new StringBuilder();
        for (int k = 0; k < n; k++) {
            text.append("base b").append((char) ('a' + k)).append(" 1 0 0 1;");
        }
        return text.toString();
    }

    private static void baseLine() {
        for (int n = 1; n <= 5; n++) {
            lines(n, bases(n));
            due("BASES", told(bases(n)).count(2), n);
        }
        fault(5, bases(5) + "^base x 1 0 0 1;");
        fault(1, "base x^;");
        fault(1, "base x 1^;");
        fault(1, "base x 1 0^;");
        fault(1, "base x 1 0 0^;");
        fault(1, "base x 1 0 0 1 ^1;");
    }

    private static String nodes(int n) {
        StringBuilder text = new StringBuilder();
        for (int k = 0; k < n; k++) {
            text.append("node n").append((char) ('a' + k)).append(" t;");
        }
        return text.toString();
    }

    private static void nodeLine() {
        String t = "table t 1 0 0;";
        for (int n = 1; n <= 6; n++) {
            lines(n + 1, t + nodes(n));
            due("NODES", told(t + nodes(n)).count(3), n);
        }
        fault(5, t + nodes(6) + "^node x t;");
        fault(1, t + "node x^;");
        fault(1, t + "node x t ^t;");
        fault(1, t + "node x ^0;");
        lines(2, "gate g 1 1;node x g;");
    }

    /** Six NODES of four LEGS each, na to nf. */
    private static String sixNodes() {
        return "table t 4" + times(16, " 1") + ";" + nodes(6);
    }

    /** So many WIRES: NODE na's LEG 0 to its LEG 1, its 2 to its 3, then of nb .. */
    private static String wires(int n) {
        StringBuilder text = new StringBuilder();
        for (int k = 0; k < n; k++) {
            String node = " n" + (char) ('a' + k / 2) + " ";
            text.append("wire").append(node).append(k % 2 * 2).append(node).append(k % 2 * 2 + 1).append(';');
        }
        return text.toString();
    }

    private static void wireLine() {
        for (int n = 1; n <= 10; n++) {
            lines(7 + n, sixNodes() + wires(n));
            due("WIRES", told(sixNodes() + wires(n)).count(4), n);
        }
        fault(5, sixNodes() + wires(10) + "^wire nf 0 nf 1;");
        for (int legs = 1; legs <= 4; legs++) {
            String head = "table t " + legs + times(1 << legs, " 0") + ";node n t;node m t;";
            lines(4, head + "wire n " + (legs - 1) + " m " + (legs - 1) + ";");
            lines(4, head + "wire n 0 m 0;");
            fault(4, head + "wire n ^" + legs + " m 0;");
            fault(4, head + "wire n 0 m ^" + legs + ";");
            fault(4, head + "wire n ^99 m 0;");
        }
        fault(2, SOME + "wire n 1 n ^1;");
        fault(2, SOME + "wire n 0 m 0;wire n ^0 m 1;");
        lines(6, SOME + "wire n 0 n 1;wire m 1 m 0;");
    }

    private static void valuesBelowP() {
        for (int p : PRIMES) {
            String head = "field " + p + ";";
            lines(2, head + table("a", p - 1, 0));
            fault(4, head + "table a 1 ^" + p + " 0;");
            fault(4, head + "table a 1 0 ^" + p + ";");
            lines(2, head + "base b " + (p - 1) + " 0 0 " + (p - 1) + ";");
            lines(2, head + "base b 0 " + (p - 1) + " " + (p - 1) + " 0;");
            fault(4, head + "base b ^" + p + " 0 0 1;");
            fault(4, head + "base b 1 ^" + p + " 0 1;");
            fault(4, head + "base b 1 0 ^" + p + " 1;");
            fault(4, head + "base b 1 0 0 ^" + p + ";");
            // By this d ad - bc would not be 0.
            fault(4, head + "base b 1 1 1 ^" + p + ";");
            fault(4, head + "base b 1 1 1 ^99;");
        }
        fault(4, "table a 4" + times(15, " 6") + " ^7;");
    }

    private static String tables(int n, int gates) {
        StringBuilder text = new StringBuilder();
        for (int k = 0; k < n; k++) {
            String name = "t" + (char) ('a' + k);
            text.append((gates >> k & 1) == 1 ? "gate " + name + " 1 1;" : "table " + name + " 1 0 1;");
        }
        return text.toString();
    }

    private static void eightTables() {
        for (int gates : new int[] {0, 255, 0b10101010, 0b01010101, 0b11110000, 1, 128}) {
            for (int n = 1; n <= 8; n++) {
                lines(n, tables(n, gates));
                due("TABLES", told(tables(n, gates)).count(1), n);
            }
            fault(5, tables(8, gates) + "^table x 1 0 0;");
            fault(5, tables(8, gates) + "^gate x 1 1;");
        }
        due("the last one is there", told(tables(8, 0)).table(7, NONE), 1);
    }

    private static void numberedAsTold() {
        HoloNet x = told("table z 1 1 0;base y 2 0 0 1;node x z;gate w 2 2;base v 3 0 0 1;node u w;wire u 1 x 0;"
            + "table t 3 0 0 0 0 0 0 0 5;node s t;wire s 2 s 0;base r 4 0 0 1;");
        row("LEGS of TABLES", new int[] {x.table(0, NONE), x.table(1, NONE), x.table(2, NONE)}, 1, 2, 3);
        row("a of BASES", new int[] {x.base(0, 0), x.base(1, 0), x.base(2, 0)}, 2, 3, 4);
        row("LEGS of NODES", new int[] {x.node(0, NONE), x.node(1, NONE), x.node(2, NONE)}, 1, 2, 3);
        row("WIRE 0", wireEnds(x, 0), 1, 1, 0, 0);
        row("WIRE 1", wireEnds(x, 1), 2, 2, 2, 0);
    }

    // ---- faults

    private static void leastPlace() {
        String ahead = SOME + bases(4);
        // A FAULT of each kind, the TEXT going on behind it as if there were none.
        String[] lines = {"", "gate q 1 1 ^?;", "gate ^a 1 1;", "node q ^q;", "gate q 1 ^2;", "^base q 1 0 0 1;"};
        for (int kind = 1; kind <= 5; kind++) {
            for (int other = 1; other <= 5; other++) {
                fault(kind, ahead + lines[kind] + lines[other].replace("^", "").replace('q', 'r'));
                fault(kind, ahead + "gate c 1 1;" + lines[kind] + "?");
            }
        }
        fault(2, SOME + "table ^a 9 9;");
        fault(2, SOME + "node ^a q;");
        fault(2, SOME + "base ^b 9 9 9 9;");
        fault(4, SOME + "table q ^9 9 9 abcdefg;");
        fault(4, SOME + "wire n ^9 q 0;");
        fault(3, SOME + "wire ^q 9 n 9;");
        fault(3, SOME + "wire n 0 ^q 9;");
        fault(4, SOME + "gate q 4 2 ^9 9 9;");
        fault(4, SOME + "gate q 4 2 0 ^0 0;");
        fault(4, "field ^8;table a 9");
        fault(4, "base b ^7 7 7 7;");
    }

    private static void firstOfTheList() {
        // 1 ahead of 5: the WORD of one too many where no LINE can begin.
        fault(1, tables(8, 0) + "node n ^table;");
        fault(1, bases(5) + "gate g 1 ^base;");
        fault(1, manyEdges(12) + " ^table;");
        // 1 ahead of 4: what is no TOKEN is no NUMBER that can't be.
        fault(1, "table a ^100 0 0;");
        fault(1, "field ^101;");
        fault(1, manyEdges(12) + " ^100 1 1;");
        // 1 ahead of 2 and of 3.
        fault(1, SOME + "table ^aaaaaaa 1 0 0;");
        fault(1, SOME + "node k ^abcdefg;");
        // 4 ahead of 5: the first POINT of a 13th EDGE that can't be.
        fault(4, manyEdges(12) + " ^8 7 1;");
        fault(4, manyEdges(12) + " ^99 7 1;");
    }

    private static void byteThatBeginsNone() {
        fault(1, "^?");
        fault(1, "  \n ^?table");
        fault(1, "table^?");
        fault(1, "table a 1 0 0^?;");
        fault(1, "table a 1 0 0;^?");
        fault(1, "table a 1 0 0 ^abcdefgh;");
        fault(1, "table a 1 0 0;^1000");
        for (String token : new String[] {"?", "abcdefg", "000", "Q", "\t"}) {
            String[] parts = EACH_LINE.split(" ");
            for (int k = 0; k < parts.length; k++) {
                fault(1, joined(parts, k) + "^" + token + " ;");
            }
        }
    }

    private static String joined(String[] parts, int n) {
        StringBuilder text = new StringBuilder();
        for (int k = 0; k < n; k++) {
            text.append(parts[k]).append(' ');
        }
        return text.toString();
    }

    private static void unfitToken() {
        String[] parts = EACH_LINE.split(" ");
        for (int k = 0; k < parts.length; k++) {
            String head = joined(parts, k) + "^";
            String tail = joined(Arrays.copyOfRange(parts, k + 1, parts.length), parts.length - k - 1);
            boolean isNumber = Character.isDigit(parts[k].charAt(0));
            boolean isEnd = parts[k].equals(";");
            if (isNumber) {
                fault(1, head + "q " + tail);
                fault(1, head + "node " + tail);
            } else if (isEnd) {
                fault(1, head + "q " + tail);
                fault(1, head + "node " + tail);
            } else {
                fault(1, head + "1 " + tail);
                fault(1, head + "; " + tail);
            }
        }
        List<String> noEnds = new ArrayList<>(List.of("field ^;", "field 7 ^7;", "table a ^;", "table a 1 0 ^;",
            "table a 1 0 0 ^0;", "gate a ^;", "gate a 1 ^;", "gate a 2 1 0 ^;", "gate a 2 1 0 1 ^;", "base a 1 0 0 ^;",
            "base a 1 0 0 1 ^1;", SOME + "node k a ^a;", SOME + "node k a ^0;", SOME + "wire n 0 m 0 ^0;",
            SOME + "wire n ^m;", SOME + "wire n 0 ^0;"));
        for (String text : noEnds) {
            fault(1, text);
        }
        fault(1, "^tabl a 1 0 0;");
        fault(1, "^a 1 0 0;");
    }

    private static void unfitEnd() {
        String[] parts = EACH_LINE.split(" ");
        int lines = 0;
        for (int k = 1; k <= parts.length; k++) {
            String text = joined(parts, k);
            if (parts[k - 1].equals(";")) {
                lines++;
                lines(lines, text);
            } else {
                fault(1, text + "^");
                fault(1, text + "\n  \n^");
                fault(1, text.substring(0, text.length() - 1) + "^");
            }
        }
    }

    private static void nameGivenTwice() {
        fault(2, "table a 1 0 0;table ^a 1 0 0;");
        fault(2, "gate a 1 1;gate ^a 1 1;");
        fault(2, "base a 1 0 0 1;base ^a 1 0 0 1;");
        fault(2, SOME + "node ^n a;");
        fault(2, SOME + "node ^b a;");
        fault(2, SOME + "base ^m 1 0 0 1;");
        fault(2, tables(7, 0) + "table ^tg 1 0 0;");
        fault(2, "table abcdef 1 0 0;base x 1 0 0 1;table ^abcdef 1 0 0;");
        // Names of an earlier TEXT are gone, also those of one with a FAULT.
        HoloNet x = told("table a 1 0 0;");
        due("the same again", tell(x, "table a 1 0 0;"), 1);
        due("a fault", tell(x, "table c 1 0 0;?"), faultAt(14, 1));
        due("the same again", tell(x, "table c 1 0 0;"), 1);
    }

    private static void edgeTwice() {
        fault(2, "gate g 4 1 0 1 1 1 2 1 0 ^1 1;");
        fault(2, "gate g 4 1 0 1 1 1 2 1 2 ^1 1;");
        fault(2, "gate g 4 1 0 1 1 1 2 1 2 ^1 9;");
        // 0 2 has POINTS of both, and is there no more than 1 3 is.
        lines(1, "gate g 4 1 0 1 1 1 2 1 0 2 1 1 3 1;");
        lines(2, "gate g 2 1 0 1 1;gate h 2 1 0 1 1;");
        fault(2, manyEdges(11) + " 0 ^1 1;");
    }

    private static void legTwice() {
        fault(2, SOME + "wire n 0 n ^0;");
        fault(2, SOME + "wire m 1 m ^1;");
        String one = SOME + "wire n 0 m 1;";
        fault(2, one + "wire n ^0 n 1;");
        fault(2, one + "wire m ^1 n 1;");
        fault(2, one + "wire n 1 n ^0;");
        fault(2, one + "wire n 1 m ^1;");
        fault(2, one + "wire n 1 n ^1;");
        lines(6, one + "wire m 0 n 1;");
        fault(2, sixNodes() + wires(9) + "wire nf 0 nd ^3;");
        HoloNet x = told(one);
        due("the same again", tell(x, one), 5);
    }

    private static void nameNotAhead() {
        fault(3, "node n ^a;");
        fault(3, "node n ^a;table a 1 0 0;");
        fault(3, "table a 1 0 0;node n ^n;");
        fault(3, "wire ^n 0 n 0;");
        fault(3, "table a 2 0 0 0 0;wire ^n 0 n 1;node n a;");
        fault(3, "table a 2 0 0 0 0;node n a;wire n 0 ^m 1;node m a;");
        fault(3, "table aa 1 0 0;node n ^a;");
        fault(3, "table a 1 0 0;node n ^aa;");
        HoloNet x = told("table a 1 0 0;node n a;");
        due("of an earlier TEXT", tell(x, "node k a;"), faultAt(7, 3));
        // Of one with a FAULT, and of those before: at each number that a NAME can have.
        for (int names = 1; names <= 8; names++) {
            HoloNet y = new HoloNet();
            for (int turn = 0; turn < 4; turn++) {
                String text = tables(names, 0) + (turn % 2 == 0 ? "?" : "");
                tell(y, text);
                for (int k = 0; k < names; k++) {
                    due("of an earlier TEXT", tell(y, "node k t" + (char) ('a' + k) + ";"), faultAt(7, 3));
                    tell(y, text);
                }
            }
        }
    }

    private static void nameOfAnotherKind() {
        fault(3, SOME + "node k ^b;");
        fault(3, SOME + "node k ^n;");
        fault(3, SOME + "wire ^a 0 n 0;");
        fault(3, SOME + "wire ^b 0 n 0;");
        fault(3, SOME + "wire n 0 ^a 0;");
        fault(3, SOME + "wire n 0 ^b 0;");
        fault(3, "gate g 2 1;wire ^g 0 g 0;");
        lines(5, SOME + "node k a;");
    }

    private static void numberThatCannotBe() {
        fault(4, "field ^2;");
        fault(4, "field ^99;");
        fault(4, "table a ^0 0;");
        fault(4, "table a ^5 0;");
        fault(4, "table a 1 0 ^7;");
        fault(4, "gate a ^0 1;");
        fault(4, "gate a ^9 1;");
        fault(4, "gate a 2 ^0;");
        fault(4, "gate a 2 ^3;");
        fault(4, "gate a 8 ^5;");
        fault(4, "gate a 2 1 ^2 0 1;");
        fault(4, "gate a 2 1 0 ^2 1;");
        fault(4, "gate a 2 1 0 1 ^0;");
        fault(4, "gate a 2 1 0 1 ^7;");
        fault(4, "base a 1 0 0 ^7;");
        fault(4, SOME + "wire n ^2 m 0;");
        fault(4, SOME + "wire n 0 m ^2;");
        // A table of four LEGS told ahead does not lend its LEGS to this one.
        fault(4, "table t 4" + times(16, " 0") + ";table a 1 0 0;node n t;node m a;wire n 3 m ^1;");
    }

    private static void secondPointLikeFirst() {
        fault(4, "gate g 1 1 0 ^0 1;");
        fault(4, "gate g 8 1 7 ^7 1;");
        fault(4, "gate g 8 1 0 1 1 1 ^1 1;");
        fault(4, manyEdges(11) + " 7 ^7 1;");
        fault(4, "gate g 8 1 3 ^03 1;");
    }

    private static void noInverse() {
        fault(4, "base b 0 0 0 ^0;");
        fault(4, "base b 1 1 1 ^1;");
        fault(4, "base b 3 5 2 ^1;");
        fault(4, "base b 6 6 6 ^6;");
        lines(2, "field 11;base b 3 5 2 1;");
        fault(4, "field 97;base b 96 96 96 ^96;");
        fault(4, "field 97;base b 96 1 1 ^96;");
        lines(1, "base b 0 1 1 0;");
        fault(4, "base b 0 1 0 ^1;");
        fault(4, "base b 0 1 0 ^1 1");
        for (int d = 0; d < 7; d++) {
            // a d - b c is 2 d - 3: 0 by d 5 alone.
            String text = "base b 2 1 3 ^" + d + ";";
            if (d == 5) {
                fault(4, text);
            } else {
                lines(1, text.replace("^", ""));
            }
        }
    }

    private static void wordOfOneTooMany() {
        for (String rest : new String[] {"", " ", " ;", " 7", " ta 1 0 0;", " x 9", "?"}) {
            fault(5, tables(8, 0) + "^table" + rest);
            fault(5, tables(8, 255) + "^gate" + rest);
            fault(5, bases(5) + "^base" + rest);
            fault(5, "table t 1 0 0;" + nodes(6) + "^node" + rest);
            fault(5, sixNodes() + wires(10) + "^wire" + rest);
        }
        // None of these is too many for another kind.
        lines(14, tables(8, 0) + bases(5) + "node n ta;");
    }

    private static void edgeTooMany() {
        fault(5, manyEdges(12) + " ^1 7 1;");
        fault(5, manyEdges(12) + " ^0;");
        fault(5, manyEdges(12) + " ^0 1 1;");
        fault(5, manyEdges(12) + " ^7");
        fault(5, manyEdges(12) + " ^7 7 0");
        // The EDGES of an earlier gate are none of the next one's.
        lines(2, manyEdges(12) + ";" + manyEdges(12).replace("gate g", "gate h") + ";");
    }

    // ---- promises 1 to 3

    private static void newObject() {
        HoloNet x = new HoloNet();
        row("counts", counts(x), 7, 0, 0, 0, 0, 0, 0, 0);
        due("NONE", HoloNet.NONE, -1);
        row("TABLES", new int[] {x.table(0, 0), x.table(0, NONE), x.parity(0), x.identity(0, false), x.made(0),
            x.plain(0), x.like(0, 0), x.rank(0, 0), x.based(0, 0, 0), x.fits(0, 0), x.first(0), x.seek(0)},
            -2, -2, -1, -1, -1, -1, -1, -1, -1, -1, -1, -1);
        throwsNone("base(0, 0)", () -> x.base(0, 0));
        throwsNone("wire(0, 0)", () -> x.wire(0, 0));
        row("the NET", new int[] {x.node(0, 0), x.node(0, NONE), x.open(NONE), x.open(0), x.sum(0), x.sum(1), x.total(),
            x.ways(0), x.ways(1), x.within(0), x.within(1), x.width(0), x.width(1)},
            -2, -2, 0, -2, 1, -1, 1, 1, -1, 1, -1, 0, -1);
        refused("an ACT", x.change(0, 0) || x.plug(0, 0) || x.scale(0, 1) || x.swap(0, 0, 1));
        row("ACTS", new int[] {x.join(0, 0, 0, 1), x.cut(0), x.undo()}, NONE, NONE, NONE);
        refused("a KEEP", x.keep(0, true) || x.keep(1, true));
        HoloNet other = told("field 97;table a 1 0 0;");
        due("another object", new HoloNet().count(0) + other.count(1), 8);
    }

    private static void twentyBytes() {
        for (int k = 0; k < 20; k++) {
            fault(1, times(k, " ") + "^?" + times(19 - k, " "));
            fault(1, times(20 + k, " ") + "^?" + times(19 - k, "\n"));
            fault(1, times(680 + k, " ") + "^?" + times(19 - k, " "));
        }
    }

    private static void highestFirst() {
        HoloNet x = new HoloNet();
        // field 11; and eleven blanks
        x.feed(0x6669656c, 0x64203131, 0x3b202020, 0x20202020, 0x20202020);
        due("net", x.net(20), 1);
        due("P", x.count(0), 11);
        // All bits of a byte come, the highest one of a number, too.
        x.feed(0xA0202020, 0, 0, 0, 0);
        due("160 is no blank", x.net(4), faultAt(0, 1));
        x.feed(0x20202020, 0x8A8A8A8A, 0, 0, 0);
        due("138 is no blank", x.net(20), faultAt(4, 1));
        x.feed(-1, -1, -1, -1, -1);
        due("255 is none", x.net(20), faultAt(0, 1));
        x.feed(0x0A20200A, 0x20200A20, 0x200A200A, 0x20202020, 0x0A0A0AFF);
        due("the last byte", x.net(20), faultAt(19, 1));
    }

    private static void feedTellsHowMany() {
        HoloNet x = new HoloNet();
        for (int k = 1; k <= 35; k++) {
            due("feed", x.feed(k, -k, 0, Integer.MIN_VALUE, Integer.MAX_VALUE), 20 * k);
            due("bytes", x.count(7), 20 * k);
        }
    }

    private static void feedBeyond700() {
        HoloNet x = new HoloNet();
        feedAll(x, "table a 1 3 4;" + times(684, " ") + "\n ");
        due("full", x.count(7), 700);
        for (int k = 0; k < 3; k++) {
            due("one more", x.feed(-1, -1, -1, -1, -1), NONE);
            due("bytes", x.count(7), 700);
        }
        due("none came", x.net(700), 1);
        due("the VALUE", x.table(0, 1), 4);
        due("room again", x.feed(0, 0, 0, 0, 0), 20);
    }

    private static void firstBytesAlone() {
        String text = "table a 1 0 1;table b 1 0 1;";
        for (int n = 0; n <= text.length(); n++) {
            HoloNet x = new HoloNet();
            feedAll(x, text);
            int more = n % 14;
            // A WORD cut short, as "tab", is the FAULT; behind it the end is.
            int want = more == 0 ? n / 14 : faultAt(more < 5 ? n - more : n, 1);
            due("net(" + n + ")", x.net(n), want);
            due("TABLES", x.count(1), more == 0 ? n / 14 : 0);
        }
        // Cut within a NUMBER: its first digit alone counts.
        HoloNet y = new HoloNet();
        feedAll(y, "field 11;");
        due("field 1", y.net(7), faultAt(6, 4));
        feedAll(y, "field 31;table a 1 13 12;");
        due("VALUE 1", y.net(19), faultAt(19, 1));
        // Cut within a WORD, and ahead of blanks.
        feedAll(y, "table abc 1 0 0;");
        due("NAME ab", y.net(8), faultAt(8, 1));
        feedAll(y, "table     abc 1 0 0;");
        due("blanks", y.net(7), faultAt(7, 1));
    }

    private static void tapeIsEmptyThen() {
        HoloNet x = new HoloNet();
        feedAll(x, "table a 1 0 1;table b 1 0 1;");
        due("net(14)", x.net(14), 1);
        due("the rest is gone", x.count(7), 0);
        due("net(1)", x.net(1), NONE);
        due("feed", x.feed(0x20202020, 0x20202020, 0x20202020, 0x20202020, 0x20202020), 20);
        due("nothing old comes again", x.net(20), 0);
        feedAll(x, "?");
        due("a FAULT", x.net(1), faultAt(0, 1));
        due("empty, too", x.count(7), 0);
        x.feed(0, 0, 0, 0, 0);
        due("net(0)", x.net(0), 0);
        due("empty, too", x.count(7), 0);
    }

    private static void textFromNowOn() {
        HoloNet x = told("field 31;" + table("a", 30, 1) + "base b 1 0 0 2;node n a;node m a;wire n 0 m 0;");
        row("counts", counts(x), 31, 1, 1, 2, 1, 0, 0, 0);
        tell(x, "field 5;" + table("c", 1, 2, 3, 4) + table("d", 4, 3) + "node k c;");
        row("counts", counts(x), 5, 2, 0, 1, 0, 2, 0, 0);
        row("TABLE 0", tableValues(x, 0), 1, 2, 3, 4);
        row("NODE 0", nodeValues(x, 0), 1, 2, 3, 4);
        throwsNone("base(0, 0)", () -> x.base(0, 0));
        throwsNone("wire(0, 0)", () -> x.wire(0, 0));
        due("no NODE 1", x.node(1, NONE), -2);
        tell(x, "");
        row("counts", counts(x), 7, 0, 0, 0, 0, 0, 0, 0);
        due("the SUM without NODES", x.sum(0), 1);
    }

    private static void howManyLines() {
        lines(0, "");
        lines(0, "\n \n");
        lines(1, "field 7;");
        lines(1, "gate a 1 1;");
        lines(2, "field 7;gate a 1 1;");
        lines(8 + 5 + 6, tables(8, 255) + bases(5) + nodes(6).replace(" t;", " ta;"));
        // The most of all: 1 field, 8 TABLES, 5 BASES, 6 NODES, 10 WIRES.
        String most = "field 3;" + tables(7, 127) + "table t 4" + times(16, " 1") + ";" + bases(5) + nodes(6) + wires(10);
        lines(30, most);
        row("counts", counts(told(most)), 3, 8, 5, 6, 10, 4, 0, 0);
        // The last of 19 NAMES is known, too.
        lines(30, most.substring(0, most.lastIndexOf("wire")) + "wire nf 0 nf 3;");
    }

    private static void nothingUndoneAfterNet() {
        HoloNet x = told(SOME);
        x.scale(0, 2);
        x.scale(0, 2);
        tell(x, SOME);
        due("ACTS", x.count(6), 0);
        due("undo", x.undo(), NONE);
        x.scale(0, 2);
        tell(x, "");
        due("undo behind an empty TEXT", x.undo(), NONE);
    }

    private static void nothingKeptAfterNet() {
        HoloNet x = told(SOME);
        holds("kept", x.keep(0, false) && x.keep(1, false));
        tell(x, SOME);
        refused("gone back", x.keep(0, true));
        refused("gone back", x.keep(1, true));
        x.keep(1, false);
        due("an empty TEXT", x.net(0), 0);
        refused("gone back", x.keep(1, true));
    }

    private static void notSoMany() {
        HoloNet x = new HoloNet();
        due("of an empty tape", x.net(1), NONE);
        due("of an empty tape", x.net(Integer.MAX_VALUE), NONE);
        feedAll(x, "table a 1 0 1;      ");
        due("net(21)", x.net(21), NONE);
        due("net(700)", x.net(700), NONE);
        due("net(701)", x.net(701), NONE);
        due("net(20)", x.net(20), 1);
        feedAll(x, times(700, " "));
        due("net(701)", x.net(701), NONE);
        due("net(700)", x.net(700), 0);
    }

    private static void belowZero() {
        HoloNet x = told("table a 1 0 1;");
        due("net(-1)", x.net(-1), NONE);
        x.feed(0, 0, 0, 0, 0);
        for (int n : new int[] {-1, -2, -20, Integer.MIN_VALUE}) {
            due("net(" + n + ")", x.net(n), NONE);
        }
        due("the TEXT stays", x.count(1), 1);
    }

    private static void tapeStays() {
        HoloNet x = told(SOME);
        x.scale(0, 2);
        x.keep(0, false);
        feedAll(x, "table c 1 0 1;");
        x.net(-1);
        x.net(21);
        x.net(Integer.MAX_VALUE);
        row("counts", counts(x), 7, 1, 1, 2, 0, 4, 1, 20);
        holds("kept", x.keep(0, true));
        feedAll(x, "table b 1 0 1;");
        due("its bytes are as they were", x.net(40), faultAt(14, 1));
        feedAll(x, "table c 1 0 1;");
        x.net(40);
        due("its bytes are as they were", x.net(14), 1);
    }

    private static void faultNumbers() {
        due("place 0, kind 1", tell(new HoloNet(), "?"), -3);
        due("place 1, kind 1", tell(new HoloNet(), " ?"), -11);
        due("place 6, kind 4", tell(new HoloNet(), "field 4;"), -54);
        due("place 19, kind 2", tell(new HoloNet(), "gate a 1 1;gate    a 1 1;"), -156);
        due("place 7, kind 3", tell(new HoloNet(), "node n b;"), -61);
        due("place 700, kind 1", tell(new HoloNet(), times(696, " ") + "wire"), -5603);
        String five = bases(5);
        due("kind 5", tell(new HoloNet(), five + "base"), -2 - (8 * five.length() + 5));
    }

    private static void allElseStays() {
        HoloNet x = told("field 11;" + table("a", 1, 2, 3, 4) + "gate g 2 2 0 1 5;base b 1 1 0 1;base c 2 0 0 1;"
            + "node n a;node m g;wire n 0 m 1;");
        x.keep(0, false);
        x.scale(0, 2);
        x.change(0, 1);
        int[] values = nodeValues(x, 0);
        int[] sums = sums(x);
        int seek = x.seek(0);
        String[] bad = {"?", "field 3;table q 1 0 0;table r 1 0 ?", "field 5;gate a 1 1;gate a 1 1;",
            "field 13;table a 2 6 6 6 6;node n b;", "field 17;base b 3 0 0 3;base c 3 0 0 17;", bases(5) + "base x 1 0 0 1;",
            "table a 2 5 5 5 5;node k a;node l a;wire k 1 l 0;wire k 1 l 1;"};
        for (String text : bad) {
            holds("a FAULT of " + text, tell(x, text) < NONE);
            row("counts", counts(x), 11, 2, 2, 2, 1, 2, 2, 0);
            row("TABLE 0", tableValues(x, 0), 1, 2, 3, 4);
            row("TABLE 1", tableValues(x, 1), 5, 0, 0, 1);
            row("BASE 1", new int[] {x.base(1, 0), x.base(1, 1), x.base(1, 2), x.base(1, 3)}, 2, 0, 0, 1);
            row("NODE 0", nodeValues(x, 0), values);
            row("WIRE 0", wireEnds(x, 0), 0, 0, 1, 1);
            row("SUMS", sums(x), sums);
            due("seek", x.seek(0), seek);
        }
        refused("KEEP 1", x.keep(1, true));
        due("undo", x.undo(), 1);
        row("NODE 0", nodeValues(x, 0), 2, 4, 6, 8);
        holds("KEEP 0", x.keep(0, true));
        row("NODE 0", nodeValues(x, 0), 1, 2, 3, 4);
    }

    private static void use512Calls() {
        HoloNet x = told("field 97;" + table("a", 1, 2) + "node n a;");
        // Told by two feeds and a net: 509 calls are left.
        int value = 1;
        for (int k = 0; k < 496; k++) {
            holds("scale", x.scale(0, 5));
            value = value * 5 % 97;
        }
        for (int k = 11; k >= 0; k--) {
            due("undo", x.undo(), k);
            // The inverse of 5 modulo 97 is 39.
            value = value * 39 % 97;
        }
        due("the 512th call", x.node(0, 0), value);
    }
}
