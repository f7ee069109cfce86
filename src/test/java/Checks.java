import java.util.NoSuchElementException;

/**
 * What the tests of single sentences share. Each test is told with the words of the document for
 * which it stands, so that a failure says which sentence is broken.
 */
abstract class Checks {
    static final int NONE = HoloNet.NONE;
    /** Numbers that are no TABLE, BASE, NODE, WIRE, LEG or INDEX, whatever the TEXT. */
    static final int[] NEVER = {-3, -8, -65536, Integer.MIN_VALUE, Integer.MIN_VALUE + 1, Integer.MAX_VALUE,
        1 << 30, 1 << 25, 65536, 256, 100};

    private static int wrong = 0;
    private static int sentences = 0;
    private static String where = "";

    interface Call {
        int of();
    }

    /** Runs the test of one sentence; what it throws is a failure of this test alone. */
    static void sentence(String part, String words, Runnable test) {
        where = part + ", \"" + words + "\"";
        sentences++;
        try {
            test.run();
        } catch (RuntimeException e) {
            wrong++;
            System.out.println(where + ": threw " + e + " at " + e.getStackTrace()[0]);
        }
    }

    static void end() {
        System.out.println(wrong == 0 ? sentences + " sentences hold" : wrong + " answers are not as due");
        if (wrong != 0) {
            System.exit(1);
        }
    }

    static void due(String what, long got, long want) {
        if (got != want) {
            wrong++;
            System.out.println(where + ": " + what + " answered " + got + ", due is " + want);
        }
    }

    static void holds(String what, boolean got) {
        due(what, got ? 1 : 0, 1);
    }

    static void refused(String what, boolean got) {
        due(what, got ? 1 : 0, 0);
    }

    static void row(String what, int[] got, int... want) {
        String a = java.util.Arrays.toString(got);
        String b = java.util.Arrays.toString(want);
        if (!a.equals(b)) {
            wrong++;
            System.out.println(where + ": " + what + " answered " + a + ", due is " + b);
        }
    }

    static void throwsNone(String what, Call call) {
        String got;
        try {
            got = "" + call.of();
        } catch (NoSuchElementException e) {
            return;
        }
        wrong++;
        System.out.println(where + ": " + what + " answered " + got + ", due is NoSuchElementException");
    }

    // ---- texts

    /** Feeds a text, zeros behind it up to twenty bytes. */
    static void feedAll(HoloNet x, String text) {
        for (int place = 0; place < text.length(); place += 20) {
            int[] n = new int[5];
            for (int k = 0; k < 20; k++) {
                n[k / 4] = n[k / 4] << 8 | (place + k < text.length() ? text.charAt(place + k) : 0);
            }
            x.feed(n[0], n[1], n[2], n[3], n[4]);
        }
    }

    static int tell(HoloNet x, String text) {
        feedAll(x, text);
        return x.net(text.length());
    }

    static HoloNet told(String text) {
        HoloNet x = new HoloNet();
        int answer = tell(x, text);
        if (answer < 0) {
            due("net of \"" + text + "\"", answer, 0);
        }
        return x;
    }

    static int faultAt(int place, int kind) {
        return -2 - (8 * place + kind);
    }

    /** The sign ^ stands ahead of the place of the FAULT, and is no part of the text. */
    static void fault(int kind, String marked) {
        int place = marked.indexOf('^');
        String text = marked.substring(0, place) + marked.substring(place + 1);
        due("net of \"" + marked + "\"", tell(new HoloNet(), text), faultAt(place, kind));
    }

    static void lines(int lines, String text) {
        due("net of \"" + text + "\"", tell(new HoloNet(), text), lines);
    }

    static String times(int n, String part) {
        return part.repeat(n);
    }

    /** A table with these VALUES, as many LEGS as they need. */
    static String table(String name, int... values) {
        StringBuilder line = new StringBuilder("table " + name + " " + Integer.numberOfTrailingZeros(values.length));
        for (int value : values) {
            line.append(' ').append(value);
        }
        return line.append(';').toString();
    }

    /** The VALUES of a table that are 0 but at some INDEXES: at, value, at, value .. */
    static int[] sparse(int size, int... atAndValue) {
        int[] values = new int[size];
        for (int k = 0; k < atAndValue.length; k += 2) {
            values[atAndValue[k]] = atAndValue[k + 1];
        }
        return values;
    }

    // ---- rows of answers

    static int[] tableValues(HoloNet x, int table) {
        int[] answer = new int[1 << x.table(table, NONE)];
        for (int i = 0; i < answer.length; i++) {
            answer[i] = x.table(table, i);
        }
        return answer;
    }

    static int[] nodeValues(HoloNet x, int node) {
        int[] answer = new int[1 << x.node(node, NONE)];
        for (int i = 0; i < answer.length; i++) {
            answer[i] = x.node(node, i);
        }
        return answer;
    }

    static int[] basedValues(HoloNet x, int table, int base) {
        int[] answer = new int[1 << x.table(table, NONE)];
        for (int i = 0; i < answer.length; i++) {
            answer[i] = x.based(table, base, i);
        }
        return answer;
    }

    static int[] wireEnds(HoloNet x, int wire) {
        return new int[] {x.wire(wire, 0), x.wire(wire, 1), x.wire(wire, 2), x.wire(wire, 3)};
    }

    static int[] openLegs(HoloNet x) {
        int[] answer = new int[x.open(NONE)];
        for (int k = 0; k < answer.length; k++) {
            answer[k] = x.open(k);
        }
        return answer;
    }

    static int[] sums(HoloNet x) {
        int[] answer = new int[1 << x.open(NONE)];
        for (int index = 0; index < answer.length; index++) {
            answer[index] = x.sum(index);
        }
        return answer;
    }

    static int[] order(HoloNet x) {
        int[] answer = new int[x.count(3)];
        for (int k = 0; k < answer.length; k++) {
            answer[k] = x.width(k + 1);
        }
        return answer;
    }

    static int[] counts(HoloNet x) {
        int[] answer = new int[8];
        for (int what = 0; what < 8; what++) {
            answer[what] = x.count(what);
        }
        return answer;
    }
}
