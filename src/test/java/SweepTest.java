import java.util.NoSuchElementException;

/**
 * Every call of the face with all mixtures of low, high and far arguments, in an empty, a small and a
 * full NET: nothing but NoSuchElementException is thrown, and each answer is that of PlainNet.
 */
public final class SweepTest {
    private static final int[] MANY = {Integer.MIN_VALUE, -1000, -3, -2, -1, 0, 1, 2, 3, 4, 5, 6, 7, 8, 9, 10, 11, 15, 16, 17,
        31, 32, 63, 64, 96, 97, 1024, 1 << 24, 1 << 30, Integer.MAX_VALUE};
    private static final int[] SOME = {Integer.MIN_VALUE, -2, -1, 0, 1, 2, 3, 4, 5, 6, 8, 16, Integer.MAX_VALUE};
    private static final int[] FEW = {Integer.MIN_VALUE, -1, 0, 1, 3, 4, 5, 6, Integer.MAX_VALUE};
    /** An object is used for at most 512 calls: a new pair ahead of that. */
    private static final int CALLS_A_PAIR = 400;

    private static final String SMALL = "field 5;table a 2 1 0 3 1;gate g 3 3 0 1 2 1 2 3;table e 1 1 4;base b 1 1 1 4;"
        + "node n a;node m g;node k e;wire n 0 m 2;wire k 0 m 1;";
    private static final String FULL = "field 3;table t 4 1 0 2 1 0 1 1 2 2 1 0 1 1 0 2 2;gate a 1 1;gate c 2 2 0 1 2;gate d 3 2 0 1 1 1 2 2;"
        + "table e 4 1 0 0 2 0 1 1 0 0 1 1 0 2 0 0 1;gate f 1 1;gate g 1 1;table l 3 1 1 1 2 2 2 0 1;base h 1 1 1 2;base i 1 0 0 2;"
        + "base j 0 1 1 0;base k 1 2 0 1;base b 2 1 0 1;node m t;node n t;node o t;node p t;node q e;node r e;"
        + "wire m 0 n 0;wire n 1 o 0;wire o 1 p 0;wire p 1 q 0;wire q 1 r 0;wire r 1 m 1;wire m 2 p 2;wire n 2 q 2;wire o 2 r 2;"
        + "wire m 3 n 3;";

    private static int wrong = 0;
    private static int used = CALLS_A_PAIR;
    private static String text = "";
    private static HoloNet mine = new HoloNet();
    private static PlainNet plain = new PlainNet();

    private interface Call {
        long of();
    }

    public static void main(String[] args) {
        for (String each : new String[] {"", SMALL, FULL}) {
            text = each;
            used = CALLS_A_PAIR;
            oneArgument();
            twoArguments();
            threeAndMore();
        }
        System.out.println(wrong == 0 ? "all answers are alike" : wrong + " answers are not alike");
        if (wrong != 0) {
            System.exit(1);
        }
    }

    private static void renew() {
        mine = new HoloNet();
        plain = new PlainNet();
        for (int place = 0; place < text.length(); place += 20) {
            int[] n = new int[5];
            for (int k = 0; k < 20; k++) {
                n[k / 4] = n[k / 4] << 8 | (place + k < text.length() ? text.charAt(place + k) : ' ');
            }
            mine.feed(n[0], n[1], n[2], n[3], n[4]);
            plain.feed(n);
        }
        compare("net", () -> mine.net(text.length()), () -> plain.net(text.length()));
        used = 40;
    }

    private static long answer(Call call) {
        try {
            return call.of();
        } catch (NoSuchElementException e) {
            return Long.MIN_VALUE;
        } catch (RuntimeException e) {
            System.out.println("thrown: " + e);
            return Long.MAX_VALUE;
        }
    }

    private static long bit(boolean b) {
        return b ? 1 : 0;
    }

    private static void compare(String what, Call got, Call due) {
        long a = answer(got);
        long b = answer(due);
        used++;
        if (a != b && wrong < 50) {
            System.out.println(what + " answered " + a + ", due is " + b + " of " + text);
        }
        wrong += a == b ? 0 : 1;
    }

    private static void ready() {
        if (used >= CALLS_A_PAIR) {
            renew();
        }
    }

    private static void oneArgument() {
        for (int a : MANY) {
            ready();
            String of = "(" + a + ")";
            compare("parity" + of, () -> mine.parity(a), () -> plain.parity(a));
            compare("made" + of, () -> mine.made(a), () -> plain.made(a));
            compare("plain" + of, () -> mine.plain(a), () -> plain.plain(a));
            compare("first" + of, () -> mine.first(a), () -> plain.first(a));
            compare("seek" + of, () -> mine.seek(a), () -> plain.seek(a));
            compare("identity even" + of, () -> mine.identity(a, false), () -> plain.identity(a, false));
            compare("identity odd" + of, () -> mine.identity(a, true), () -> plain.identity(a, true));
            compare("open" + of, () -> mine.open(a), () -> plain.open(a));
            compare("sum" + of, () -> mine.sum(a), () -> plain.sum(a));
            compare("ways" + of, () -> mine.ways(a), () -> plain.ways(a));
            compare("within" + of, () -> mine.within(a), () -> plain.within(a));
            compare("width" + of, () -> mine.width(a), () -> plain.width(a));
            compare("count" + of, () -> mine.count(a), () -> plain.count(a));
            compare("keep back" + of, () -> bit(mine.keep(a, true)), () -> bit(plain.keep(a, true)));
            compare("keep" + of, () -> bit(mine.keep(a, false)), () -> bit(plain.keep(a, false)));
            compare("keep back" + of, () -> bit(mine.keep(a, true)), () -> bit(plain.keep(a, true)));
            compare("cut" + of, () -> mine.cut(a), () -> plain.cut(a));
            compare("total()", () -> mine.total(), () -> plain.total());
            compare("undo()", () -> mine.undo(), () -> plain.undo());
        }
        for (int a : MANY) {
            renew();
            compare("net(" + a + ")", () -> mine.net(a), () -> plain.net(a));
            compare("feed", () -> mine.feed(a, a, a, a, a), () -> plain.feed(a, a, a, a, a));
            compare("net(" + a + ")", () -> mine.net(a), () -> plain.net(a));
            compare("count(7)", () -> mine.count(7), () -> plain.count(7));
        }
        used = CALLS_A_PAIR;
    }

    private static void twoArguments() {
        for (int a : MANY) {
            for (int b : MANY) {
                ready();
                String of = "(" + a + ", " + b + ")";
                compare("table" + of, () -> mine.table(a, b), () -> plain.table(a, b));
                compare("like" + of, () -> mine.like(a, b), () -> plain.like(a, b));
                compare("rank" + of, () -> mine.rank(a, b), () -> plain.rank(a, b));
                compare("base" + of, () -> mine.base(a, b), () -> plain.base(a, b));
                compare("fits" + of, () -> mine.fits(a, b), () -> plain.fits(a, b));
                compare("node" + of, () -> mine.node(a, b), () -> plain.node(a, b));
                compare("wire" + of, () -> mine.wire(a, b), () -> plain.wire(a, b));
                compare("change" + of, () -> bit(mine.change(a, b)), () -> bit(plain.change(a, b)));
                compare("plug" + of, () -> bit(mine.plug(a, b)), () -> bit(plain.plug(a, b)));
                compare("scale" + of, () -> bit(mine.scale(a, b)), () -> bit(plain.scale(a, b)));
                compare("sum(0)", () -> mine.sum(0), () -> plain.sum(0));
            }
        }
    }

    private static void threeAndMore() {
        for (int a : SOME) {
            for (int b : SOME) {
                for (int c : SOME) {
                    ready();
                    String of = "(" + a + ", " + b + ", " + c + ")";
                    compare("based" + of, () -> mine.based(a, b, c), () -> plain.based(a, b, c));
                    compare("swap" + of, () -> bit(mine.swap(a, b, c)), () -> bit(plain.swap(a, b, c)));
                }
            }
        }
        for (int a : FEW) {
            for (int b : FEW) {
                for (int c : FEW) {
                    for (int d : FEW) {
                        ready();
                        compare("join(" + a + ", " + b + ", " + c + ", " + d + ")", () -> mine.join(a, b, c, d),
                            () -> plain.join(a, b, c, d));
                        compare("cut(1)", () -> (a + b + c + d) % 7 == 0 ? mine.cut(1) : 0,
                            () -> (a + b + c + d) % 7 == 0 ? plain.cut(1) : 0);
                    }
                }
            }
        }
    }
}
