import java.util.ArrayList;
import java.util.List;
import java.util.NoSuchElementException;
import java.util.Random;

/** Runs of calls with told seeds, each answer held against that of PlainNet. */
public final class RandomRunsTest {
    private static final int RUNS = 1500;
    private static final int CALLS = 512;
    private static final int[] PRIMES = {3, 3, 5, 5, 7, 7, 7, 11, 13, 17, 31, 89, 97};

    private final Random random;
    private final HoloNet mine = new HoloNet();
    private final PlainNet plain = new PlainNet();
    private final List<String> calls = new ArrayList<>();
    private int p = 7;
    private int left = CALLS;

    private RandomRunsTest(long seed) {
        random = new Random(seed);
    }

    public static void main(String[] args) {
        int wrong = 0;
        int[] seen = new int[8];
        for (long seed = 0; seed < RUNS && wrong < 5; seed++) {
            RandomRunsTest run = new RandomRunsTest(seed);
            String fault = run.go(seen);
            if (fault != null) {
                wrong++;
                System.out.println("seed " + seed + ": " + fault);
            }
        }
        // Without good texts and each kind of fault the runs would say little.
        for (int kind = 0; kind <= 5; kind++) {
            if (seen[kind] < 20) {
                wrong++;
                System.out.println("only " + seen[kind] + " texts of kind " + kind + " (0: good)");
            }
        }
        System.out.println("texts by kind (0: good): " + java.util.Arrays.toString(seen));
        System.out.println(wrong == 0 ? "all answers are alike" : wrong + " runs are wrong");
        if (wrong != 0) {
            System.exit(1);
        }
    }

    private String go(int[] seen) {
        while (left > 0) {
            if (calls.isEmpty() || random.nextInt(60) == 0) {
                String fault = text(seen);
                if (fault != null) {
                    return fault;
                }
            } else {
                String fault = call();
                if (fault != null) {
                    return fault;
                }
            }
        }
        return null;
    }

    private String text(int[] seen) {
        String text = new TextMaker().make();
        int place = 0;
        while (place < text.length()) {
            int[] five = new int[5];
            for (int k = 0; k < 20; k++) {
                int b = place + k < text.length() ? text.charAt(place + k) & 255 : random.nextInt(256);
                five[k / 4] = five[k / 4] << 8 | b;
            }
            place += 20;
            long got = mine.feed(five[0], five[1], five[2], five[3], five[4]);
            left--;
            calls.add("feed");
            if (got != plain.feed(five)) {
                return "feed answered " + got;
            }
        }
        int n = random.nextInt(30) == 0 ? random.nextInt(760) - 20 : text.length();
        int got = mine.net(n);
        int due = plain.net(n);
        left--;
        calls.add("net");
        if (got != due) {
            return "net(" + n + ") answered " + got + ", due is " + due + " of:\n" + text;
        }
        if (due != -1) {
            seen[due >= 0 ? 0 : (-2 - due) % 8]++;
        }
        p = plain.count(0);
        return null;
    }

    /** -2 to most + 1, seldom far out. */
    private int near(int most) {
        if (random.nextInt(100) == 0) {
            return random.nextBoolean() ? Integer.MIN_VALUE : random.nextInt();
        }
        if (random.nextInt(12) == 0) {
            return random.nextInt(most + 4) - 2;
        }
        return random.nextInt(Math.max(1, most));
    }

    private interface Call {
        long of();
    }

    private String compare(String name, Call got, Call due) {
        left--;
        calls.add(name);
        long a = answer(got);
        long b = answer(due);
        if (a != b) {
            return "call " + calls.size() + ", " + name + " answered " + a + ", due is " + b;
        }
        return null;
    }

    private static long answer(Call call) {
        try {
            return call.of();
        } catch (NoSuchElementException e) {
            return Long.MIN_VALUE;
        }
    }

    private static long bit(boolean b) {
        return b ? 1 : 0;
    }

    private String call() {
        int tables = plain.count(1);
        int bases = plain.count(2);
        int nodes = plain.count(3);
        int wires = plain.count(4);
        int open = plain.count(5);
        int t = near(tables);
        int u = near(tables);
        int b = near(bases);
        int n = near(nodes);
        int m = near(nodes);
        int w = near(wires);
        int i = near(16);
        int k = near(4);
        int l = near(4);
        int f = near(p);
        int index = near(1 << Math.min(open, 24));
        boolean yes = random.nextBoolean();
        switch (random.nextInt(34)) {
            case 0: return compare("table(" + t + ", " + i + ")", () -> mine.table(t, i), () -> plain.table(t, i));
            case 1: return compare("parity(" + t + ")", () -> mine.parity(t), () -> plain.parity(t));
            case 2: return compare("identity(" + t + ", " + yes + ")", () -> mine.identity(t, yes), () -> plain.identity(t, yes));
            case 3: return compare("made(" + t + ")", () -> mine.made(t), () -> plain.made(t));
            case 4: return compare("plain(" + t + ")", () -> mine.plain(t), () -> plain.plain(t));
            case 5: return compare("like(" + t + ", " + u + ")", () -> mine.like(t, u), () -> plain.like(t, u));
            case 6: return compare("rank(" + t + ", " + i + ")", () -> mine.rank(t, i), () -> plain.rank(t, i));
            case 7: return compare("base(" + b + ", " + f + ")", () -> mine.base(b, f), () -> plain.base(b, f));
            case 8: return compare("based(" + t + ", " + b + ", " + i + ")", () -> mine.based(t, b, i), () -> plain.based(t, b, i));
            case 9: return compare("fits(" + t + ", " + b + ")", () -> mine.fits(t, b), () -> plain.fits(t, b));
            case 10: return compare("first(" + t + ")", () -> mine.first(t), () -> plain.first(t));
            case 11:
                // The plain search by a great P is slow: a few will do.
                if (p > 17 && random.nextInt(10) != 0) {
                    return null;
                }
                return compare("seek(" + t + ")", () -> mine.seek(t), () -> plain.seek(t));
            case 12: return compare("node(" + n + ", " + i + ")", () -> mine.node(n, i), () -> plain.node(n, i));
            case 13: return compare("wire(" + w + ", " + k + ")", () -> mine.wire(w, k), () -> plain.wire(w, k));
            case 14: return compare("open(" + k + ")", () -> mine.open(k), () -> plain.open(k));
            case 15: return compare("open(-1)", () -> mine.open(-1), () -> plain.open(-1));
            case 16: case 17: return compare("sum(" + index + ")", () -> mine.sum(index), () -> plain.sum(index));
            case 18:
                // All INDEXES one by one: only where they are few.
                if (open > 8 || (open > 4 && wires > 7)) {
                    return null;
                }
                return compare("total()", mine::total, plain::total);
            case 19: return compare("ways(" + index + ")", () -> mine.ways(index), () -> plain.ways(index));
            case 20: {
                int some = near(1 << nodes);
                return compare("within(" + some + ")", () -> mine.within(some), () -> plain.within(some));
            }
            case 21: {
                int what = near(nodes + 1);
                return compare("width(" + what + ")", () -> mine.width(what), () -> plain.width(what));
            }
            case 22: case 23: return compare("change(" + w + ", " + b + ")", () -> bit(mine.change(w, b)), () -> bit(plain.change(w, b)));
            case 24: return compare("plug(" + n + ", " + t + ")", () -> bit(mine.plug(n, t)), () -> bit(plain.plug(n, t)));
            case 25: return compare("scale(" + n + ", " + f + ")", () -> bit(mine.scale(n, f)), () -> bit(plain.scale(n, f)));
            case 26: return compare("swap(" + n + ", " + k + ", " + l + ")", () -> bit(mine.swap(n, k, l)), () -> bit(plain.swap(n, k, l)));
            case 27: case 28: case 29: return compare("join(" + n + ", " + k + ", " + m + ", " + l + ")", () -> mine.join(n, k, m, l), () -> plain.join(n, k, m, l));
            case 30: return compare("cut(" + w + ")", () -> mine.cut(w), () -> plain.cut(w));
            case 31: {
                String fault = null;
                for (int turn = 0, turns = random.nextInt(8) == 0 ? 14 : 1; turn < turns && fault == null; turn++) {
                    fault = compare("undo()", mine::undo, plain::undo);
                }
                return fault;
            }
            case 32: {
                int keep = near(2);
                boolean back = random.nextInt(3) == 0;
                return compare("keep(" + keep + ", " + back + ")", () -> bit(mine.keep(keep, back)), () -> bit(plain.keep(keep, back)));
            }
            default: {
                int what = near(8);
                return compare("count(" + what + ")", () -> mine.count(what), () -> plain.count(what));
            }
        }
    }

    /** Makes texts that are good or all but good. */
    private final class TextMaker {
        private final List<String> tokens = new ArrayList<>();
        private final List<Integer> tableLegs = new ArrayList<>();
        private final List<Integer> nodeLegs = new ArrayList<>();
        private int names = 0;
        private int prime = 7;

        String make() {
            if (random.nextInt(4) != 0) {
                prime = PRIMES[random.nextInt(PRIMES.length)];
                add("field", prime, ";");
            }
            int over = random.nextInt(8) == 0 ? 1 : 0;
            many(1, random.nextInt(3) == 0 ? 8 + over : 4, this::tableOrGate);
            many(0, 5 + over, this::base);
            many(0, 6 + over, this::node);
            if (nodeLegs.size() > 1) {
                wires(random.nextInt(10 + 2 * over) + over);
            }
            int faults = random.nextInt(3) == 0 ? 1 + random.nextInt(2) : 0;
            for (int k = 0; k < faults; k++) {
                spoil();
            }
            String text = joined();
            if (random.nextInt(25) == 0) {
                int place = random.nextInt(text.length() + 1);
                text = text.substring(0, place) + (char) random.nextInt(256) + text.substring(place);
            }
            return text.substring(0, Math.min(text.length(), 700));
        }

        private void many(int least, int most, Runnable line) {
            int n = least + random.nextInt(most - least + 1);
            for (int k = 0; k < n; k++) {
                line.run();
            }
        }

        private void add(Object... parts) {
            for (Object part : parts) {
                tokens.add(part.toString());
            }
        }

        private String fresh() {
            names++;
            return "" + (char) ('a' + names % 26) + (names >= 26 ? "z" : "");
        }

        private String nameOfTable(int k) {
            return tableNames.get(k);
        }

        private final List<String> tableNames = new ArrayList<>();
        private final List<String> nodeNames = new ArrayList<>();

        private int value() {
            return random.nextInt(3) == 0 ? 0 : random.nextInt(prime);
        }

        private void tableOrGate() {
            String name = fresh();
            int legs = 1 + random.nextInt(4);
            if (legs == 4 && random.nextInt(3) != 0) {
                legs = 2;
            }
            if (random.nextInt(3) == 0) {
                gate(name, legs);
            } else {
                add("table", name, legs);
                int style = random.nextInt(5);
                for (int i = 0; i < 1 << legs; i++) {
                    boolean skip = style < 2 && Integer.bitCount(i) % 2 == style || style == 4;
                    add(skip ? 0 : style == 3 ? Integer.bitCount(i) % prime : value());
                }
                add(";");
            }
            tableLegs.add(legs);
            tableNames.add(name);
        }

        private void gate(String name, int legs) {
            int points = legs + random.nextInt(9 - legs);
            add("gate", name, points, legs);
            List<String> pairs = new ArrayList<>();
            for (int a = 0; a < points; a++) {
                for (int b = a + 1; b < points; b++) {
                    pairs.add(random.nextBoolean() ? a + " " + b : b + " " + a);
                }
            }
            java.util.Collections.shuffle(pairs, random);
            int most = random.nextInt(15) == 0 ? 13 : 12;
            int edges = Math.min(pairs.size(), random.nextInt(4) == 0 ? most : random.nextInt(8));
            for (String pair : pairs.subList(0, edges)) {
                String[] points2 = pair.split(" ");
                add(points2[0], points2[1], 1 + random.nextInt(prime - 1));
            }
            add(";");
        }

        private void base() {
            int[] m = new int[4];
            do {
                for (int k = 0; k < 4; k++) {
                    m[k] = value();
                }
            } while (random.nextInt(60) != 0 && (m[0] * m[3] - m[1] * m[2]) % prime == 0);
            add("base", fresh(), m[0], m[1], m[2], m[3], ";");
        }

        private void node() {
            int table = random.nextInt(tableNames.size());
            String name = fresh();
            add("node", name, nameOfTable(table), ";");
            nodeLegs.add(tableLegs.get(table));
            nodeNames.add(name);
        }

        private void wires(int most) {
            List<String> legs = new ArrayList<>();
            for (int node = 0; node < nodeNames.size(); node++) {
                for (int leg = 0; leg < nodeLegs.get(node); leg++) {
                    legs.add(nodeNames.get(node) + " " + leg);
                }
            }
            java.util.Collections.shuffle(legs, random);
            for (int k = 0; k + 1 < legs.size() && k < 2 * most; k += 2) {
                String[] near = legs.get(k).split(" ");
                String[] far = legs.get(k + 1).split(" ");
                add("wire", near[0], near[1], far[0], far[1], ";");
            }
        }

        private void spoil() {
            String[] odd = {";", "field", "table", "gate", "base", "node", "wire", "abcdef", "abcdefg", "000", "99",
                "0", "1", "2", "A", "-1", "07", "b", "c"};
            int k = random.nextInt(tokens.size());
            String other = random.nextBoolean() ? odd[random.nextInt(odd.length)] : tokens.get(random.nextInt(tokens.size()));
            switch (random.nextInt(4)) {
                case 0 -> tokens.remove(k);
                case 1 -> tokens.add(k, other);
                case 2 -> tokens.add(k, tokens.get(k));
                default -> tokens.set(k, other);
            }
        }

        private String joined() {
            StringBuilder text = new StringBuilder();
            String before = ";";
            for (String token : tokens) {
                boolean tight = before.endsWith(";") || token.equals(";")
                    || (isLetter(before) != isLetter(token));
                if (!tight || random.nextInt(12) == 0) {
                    text.append(random.nextInt(6) == 0 ? '\n' : ' ');
                }
                text.append(token);
                before = token;
            }
            return text.append(random.nextBoolean() ? "" : " \n").toString();
        }

        private static boolean isLetter(String token) {
            return Character.isLetter(token.charAt(0));
        }
    }
}
