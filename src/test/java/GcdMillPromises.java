import java.math.BigInteger;
import java.util.NoSuchElementException;

/** For each promise of the document: ordinary inputs, the edges that it names, wrong inputs. */
public final class GcdMillPromises {
    private static final String THROWS = "throws.NoSuchElementException";
    private static final BigInteger FULL = BigInteger.ONE.shiftLeft(32 * 4).subtract(BigInteger.ONE);
    private static final int LOW = Integer.MIN_VALUE;
    private static final int HIGH = Integer.MAX_VALUE;

    private static int wrong = 0;
    private static int promise = 0;

    public static void main(String[] args) {
        newObject();
        pushLimb();
        clear();
        negate();
        add();
        subtract();
        multiply();
        divide();
        shift();
        compare();
        gcdBinary();
        gcdEuclid();
        gcdLehmer();
        lastSteps();
        bezout();
        inverse();
        power();
        isqrt();
        root();
        isSquare();
        jacobi();
        sign();
        length();
        limbAt();
        feed();
        end();
        read();
        write();
        octet();
        count();
        System.out.println(wrong == 0 ? "all answers are as due" : wrong + " answers are not as due");
        if (wrong != 0) {
            System.exit(1);
        }
    }

    private static void due(String what, Object got, Object want) {
        if (!got.toString().equals(want.toString())) {
            wrong++;
            System.out.println("promise " + promise + ": " + what + " answered " + got + ", due is " + want);
        }
    }

    /** A mill of width 4 with these numbers in its registers and two more that have 0. */
    private static GcdMill mill(Object... numbers) {
        GcdMill mill = new GcdMill(numbers.length + 2, 4);
        for (int r = 0; r < numbers.length; r++) {
            set(mill, r, new BigInteger(numbers[r].toString()));
        }
        return mill;
    }

    private static void set(GcdMill mill, int r, BigInteger value) {
        mill.clear(r);
        BigInteger size = value.abs();
        for (int i = (size.bitLength() + 31) / 32 - 1; i >= 0; i--) {
            mill.pushLimb(r, size.shiftRight(32 * i).intValue());
        }
        if (value.signum() < 0) {
            mill.negate(r, r);
        }
    }

    private static String get(GcdMill mill, int r) {
        BigInteger size = BigInteger.ZERO;
        for (int i = mill.length(r) - 1; i >= 0; i--) {
            size = size.shiftLeft(32).add(BigInteger.valueOf(mill.limbAt(r, i) & 0xFFFFFFFFL));
        }
        return (mill.sign(r) < 0 ? size.negate() : size).toString();
    }

    private static String all(GcdMill mill) {
        StringBuilder text = new StringBuilder();
        for (int r = 0; r < mill.count(0); r++) {
            text.append(r == 0 ? "" : " ").append(get(mill, r));
        }
        return text.toString();
    }

    private static int feedText(GcdMill mill, String text) {
        int from = mill.count(2);
        int[] five = new int[5];
        for (int at = 0; at < text.length(); at += 20) {
            for (int i = 0; i < 20; i++) {
                five[i / 4] = five[i / 4] << 8 | (at + i < text.length() ? text.charAt(at + i) : 0);
            }
            mill.feed(five[0], five[1], five[2], five[3], five[4]);
        }
        return mill.end(from + text.length()) ? mill.count(2) : -9;
    }

    private static String outText(GcdMill mill) {
        StringBuilder text = new StringBuilder();
        int count = mill.count(3);
        for (int k = 0; k < count; k++) {
            text.append((char) mill.octet(k));
        }
        return text.toString();
    }

    private static void newObject() {
        promise = 1;
        int[][] cases = {{1, 1, 1, 1}, {0, 0, 1, 1}, {LOW, LOW, 1, 1}, {16, 40, 16, 40}, {17, 41, 16, 40},
            {HIGH, HIGH, 16, 40}, {5, 7, 5, 7}, {-1, 40, 1, 40}, {16, -1, 16, 1}};
        for (int[] one : cases) {
            GcdMill mill = new GcdMill(one[0], one[1]);
            due("REGISTERS", mill.count(0), one[2]);
            due("WIDTH", mill.count(1), one[3]);
            for (int r = 0; r < one[2]; r++) {
                due("first sign", mill.sign(r), 0);
                due("first length", mill.length(r), 0);
            }
            due("last register", mill.clear(one[2] - 1), true);
            due("behind the last", mill.clear(one[2]), false);
            for (int i = 0; i < one[3]; i++) {
                due("limb that has room", mill.pushLimb(0, -1), 0);
            }
            due("limb that has not room", mill.pushLimb(0, 0), 1);
        }
    }

    private static void pushLimb() {
        promise = 2;
        GcdMill mill = mill(0, -5);
        due("pushLimb", mill.pushLimb(0, 0), 0);
        due("0 and 0", all(mill), "0 -5 0 0");
        due("pushLimb", mill.pushLimb(0, -1), 0);
        due("pushLimb", mill.pushLimb(0, 7), 0);
        due("two limbs", get(mill, 0), "18446744069414584327");
        due("pushLimb", mill.pushLimb(1, LOW), 0);
        due("the sign stays", get(mill, 1), "-23622320128");
        due("of a register that is none", mill.pushLimb(4, 1), 3);
        due("of a register that is none", mill.pushLimb(-1, 1), 3);
        set(mill, 2, FULL.negate());
        due("without room", mill.pushLimb(2, 0), 1);
        due("nothing changed", get(mill, 2), FULL.negate());
        mill.clear(1);
        mill.pushLimb(1, 3);
        due("0 had no sign", get(mill, 1), "3");
    }

    private static void clear() {
        promise = 3;
        GcdMill mill = mill(9, -9);
        due("clear", mill.clear(1), true);
        due("cleared", all(mill), "9 0 0 0");
        due("again", mill.clear(1), true);
        due("none", mill.clear(-1), false);
        due("none", mill.clear(4), false);
        due("none", mill.clear(LOW), false);
        due("unchanged", all(mill), "9 0 0 0");
    }

    private static void negate() {
        promise = 4;
        GcdMill mill = mill(9, FULL.negate());
        due("negate", mill.negate(2, 0), 0);
        due("negate", mill.negate(3, 1), 0);
        due("negated", all(mill), "9 -" + FULL + " -9 " + FULL);
        due("in place", mill.negate(2, 2), 0);
        due("in place", get(mill, 2), 9);
        mill.clear(0);
        due("of 0", mill.negate(1, 0), 0);
        due("of 0", get(mill, 1) + " " + mill.sign(1) + " " + mill.compare(0, 1), "0 0 0");
        due("none", mill.negate(4, 0), 3);
        due("none", mill.negate(0, -1), 3);
    }

    private static void add() {
        promise = 5;
        GcdMill mill = mill(FULL, 1, -1, FULL.negate());
        due("add", mill.add(4, 0, 2), 0);
        due("sum", get(mill, 4), FULL.subtract(BigInteger.ONE));
        due("add", mill.add(4, 4, 1), 0);
        due("sum", get(mill, 4), FULL);
        due("no room", mill.add(4, 0, 1), 1);
        due("no room below", mill.add(4, 3, 2), 1);
        due("unchanged", get(mill, 4), FULL);
        due("to 0", mill.add(0, 0, 3), 0);
        due("to 0", get(mill, 0) + mill.sign(0), "00");
        due("below 0", mill.add(5, 1, 3), 0);
        due("below 0", get(mill, 5), FULL.subtract(BigInteger.ONE).negate());
        due("twice", mill.add(2, 2, 2), 0);
        due("twice", get(mill, 2), -2);
        due("none", mill.add(6, 0, 0) + mill.add(0, -1, 0) + mill.add(0, 0, HIGH), 9);
        due("none ahead of room", mill.add(-1, 3, 3), 3);
    }

    private static void subtract() {
        promise = 6;
        GcdMill mill = mill(FULL, 1, -1, 0);
        due("subtract", mill.subtract(4, 3, 0), 0);
        due("0 - a", get(mill, 4), FULL.negate());
        due("no room", mill.subtract(5, 0, 2), 1);
        due("no room below", mill.subtract(5, 4, 1), 1);
        due("unchanged", get(mill, 5), 0);
        due("a - a", mill.subtract(0, 0, 0), 0);
        due("a - a", get(mill, 0) + mill.sign(0), "00");
        due("a - 0", mill.subtract(5, 2, 3), 0);
        due("a - 0", get(mill, 5), -1);
        due("0 - 0", mill.subtract(5, 3, 3), 0);
        due("0 - 0", get(mill, 5) + mill.sign(5), "00");
        due("-1 - 1", mill.subtract(1, 2, 1), 0);
        due("-1 - 1", get(mill, 1), -2);
        due("none", mill.subtract(6, 0, 0) + mill.subtract(0, -1, 0) + mill.subtract(0, 0, 6), 9);
    }

    private static void multiply() {
        promise = 7;
        BigInteger two64 = BigInteger.ONE.shiftLeft(64);
        BigInteger less = two64.subtract(BigInteger.ONE);
        GcdMill mill = mill(less, less.negate(), two64, 0, -1);
        due("multiply", mill.multiply(5, 0, 1), 0);
        due("product", get(mill, 5), less.multiply(less).negate());
        due("multiply", mill.multiply(5, 1, 1), 0);
        due("product", get(mill, 5), less.multiply(less));
        due("no room", mill.multiply(6, 2, 2), 1);
        due("unchanged", get(mill, 6), 0);
        due("by 0", mill.multiply(6, 3, 4), 0);
        due("by 0", get(mill, 6) + mill.sign(6), "00");
        due("multiply", mill.multiply(2, 2, 0), 0);
        due("in place", get(mill, 2), two64.multiply(less));
        due("no room", mill.multiply(2, 2, 2), 1);
        due("none", mill.multiply(7, 0, 0) + mill.multiply(0, -1, 0) + mill.multiply(0, 0, LOW), 9);
    }

    private static void divide() {
        promise = 8;
        int[][] cases = {{7, 2, 3, 1}, {-7, 2, -4, 1}, {7, -2, -3, 1}, {-7, -2, 4, 1}, {6, 3, 2, 0}, {-6, 3, -2, 0},
            {-6, -3, 2, 0}, {0, 5, 0, 0}, {0, -5, 0, 0}, {3, 5, 0, 3}, {-3, 5, -1, 2}, {3, -5, 0, 3}, {-3, -5, 1, 2},
            {-1, 1, -1, 0}, {5, 5, 1, 0}};
        for (int[] one : cases) {
            GcdMill mill = mill(one[0], one[1]);
            due("divide", mill.divide(2, 3, 0, 1), 0);
            due(one[0] + " by " + one[1], get(mill, 2) + " " + get(mill, 3), one[2] + " " + one[3]);
            due("into what is read", mill.divide(1, 0, 0, 1), 0);
            due("into what is read", get(mill, 1) + " " + get(mill, 0), one[2] + " " + one[3]);
        }
        GcdMill mill = mill(FULL.negate(), -1, 0, 7);
        due("the greatest", mill.divide(4, 5, 0, 1), 0);
        due("the greatest", get(mill, 4) + " " + get(mill, 5), FULL + " 0");
        due("both one register read", mill.divide(4, 5, 3, 3), 0);
        due("both one register read", get(mill, 4) + " " + get(mill, 5), "1 0");
        String before = all(mill);
        due("by 0", mill.divide(4, 5, 0, 2), 2);
        due("q and m are one", mill.divide(4, 4, 0, 1), 3);
        due("3 ahead of 2", mill.divide(4, 4, 0, 2), 3);
        due("none", mill.divide(6, 0, 0, 1) + mill.divide(0, 6, 0, 1) + mill.divide(0, 1, -1, 1)
                + mill.divide(0, 1, 0, 6), 12);
        due("unchanged", all(mill), before);
        guessesTooGreat();
    }

    /** Limbs at which a quotient that is guessed from two limbs comes out one or two too great. */
    private static void guessesTooGreat() {
        String[][] cases = {{"80000000fffffffe00000000", "80000000ffffffff"}, {"80000000000000000000000000000000", "ffffffff00000001"},
            {"7fffffff800000010000000000000000", "800000008000000200000005"}, {"00008000000000000000000300000000", "200000000000000000000001"},
            {"80000000000000000000000300000000", "800000000000000000000001"}, {"ffffffffffffffffffffffffffffffff", "ffffffffffffffff"},
            {"fffffffffffffffeffffffffffffffff", "ffffffffffffffffffffffff"}, {"0000fffe000000000000800000000000", "00008000ffffffff"}};
        for (String[] one : cases) {
            BigInteger a = new BigInteger(one[0], 16);
            BigInteger b = new BigInteger(one[1], 16);
            GcdMill mill = mill(a, b);
            due("divide", mill.divide(2, 3, 0, 1), 0);
            due(one[0] + " by " + one[1], get(mill, 2) + " " + get(mill, 3), a.divide(b) + " " + a.mod(b));
        }
    }

    private static void shift() {
        promise = 9;
        GcdMill mill = mill(5, -5, 0, FULL, FULL.negate());
        int[][] cases = {{0, 0, 5}, {0, 3, 40}, {1, 3, -40}, {0, -1, 2}, {1, -1, -3}, {0, -3, 0}, {1, -3, -1}, {0, LOW, 0},
            {1, LOW, -1}, {2, HIGH, 0}, {2, LOW, 0}, {4, LOW, -1}, {4, -128, -1}, {3, -128, 0}, {3, -127, 1}, {4, -127, -2},
            {3, -125, 7}, {1, -32, -1}, {1, 0, -5}};
        for (int[] one : cases) {
            due("shift", mill.shift(5, one[0], one[1]), 0);
            due("register " + one[0] + " by " + one[1], get(mill, 5), one[2]);
        }
        due("room just so", mill.shift(5, 0, 125), 0);
        due("room just so", get(mill, 5), BigInteger.valueOf(5).shiftLeft(125));
        due("no room", mill.shift(5, 0, 126) + mill.shift(5, 3, 1) + mill.shift(5, 0, HIGH) + mill.shift(5, 1, 128), 4);
        due("unchanged", get(mill, 5), BigInteger.valueOf(5).shiftLeft(125));
        mill.shift(0, 0, 64);
        due("limbs alone", get(mill, 0), BigInteger.valueOf(5).shiftLeft(64));
        mill.shift(0, 0, -63);
        due("in place", get(mill, 0), 10);
        mill.shift(1, 0, -1);
        mill.negate(1, 1);
        mill.shift(1, 1, 32);
        mill.shift(1, 1, -32);
        due("nothing is lost", get(mill, 1), -5);
        due("none", mill.shift(7, 0, 0) + mill.shift(0, -1, 0) + mill.shift(7, 3, HIGH), 9);
    }

    private static void compare() {
        promise = 10;
        GcdMill mill = mill(FULL.negate(), -2, -1, 0, 1, 2, FULL);
        for (int a = 0; a < 7; a++) {
            for (int b = 0; b < 7; b++) {
                due("compare(" + a + ", " + b + ")", mill.compare(a, b), Integer.compare(a, b));
            }
        }
        due("above by the highest bit", compareOf(0x80000000L, 0x7FFFFFFFL) + compareOf(0x1FFFFFFFFL, 0x200000000L), 0);
        due("none", mill.compare(9, 0) + mill.compare(0, -1), 6);
    }

    private static int compareOf(long a, long b) {
        return mill(a, b).compare(0, 1);
    }

    private static final long[][] PAIRS = {{0, 0}, {0, 7}, {7, 0}, {12, 18}, {-12, 18}, {12, -18}, {-12, -18}, {0, -7}, {1, 1},
        {17, 31}, {1L << 62, 1L << 40}, {-(1L << 62), 3L << 20}, {2971215073L * 7, 1836311903L * 7}, {7540113804746346429L, 4660046610375530309L},
        {LOW, LOW}, {6, 6}, {4294967296L, 4294967295L}};

    private static int gcdBy(int way, GcdMill mill, int d, int a, int b) {
        return way == 0 ? mill.gcdBinary(d, a, b) : way == 1 ? mill.gcdEuclid(d, a, b) : mill.gcdLehmer(d, a, b);
    }

    private static void gcdWay(int way) {
        for (long[] one : PAIRS) {
            GcdMill mill = mill(one[0], one[1]);
            String want = BigInteger.valueOf(one[0]).gcd(BigInteger.valueOf(one[1])).toString();
            due("gcd", gcdBy(way, mill, 2, 0, 1), 0);
            due("gcd of " + one[0] + " and " + one[1], all(mill), one[0] + " " + one[1] + " " + want + " 0");
            due("gcd", gcdBy(way, mill, 1, 0, 1), 0);
            due("into what is read", get(mill, 1), want);
        }
        BigInteger common = new BigInteger("36893488147419103363");
        GcdMill mill = mill(common.multiply(new BigInteger("4611686018427387905")).negate(),
                common.multiply(new BigInteger("4611686018427387904")), FULL);
        gcdBy(way, mill, 3, 0, 1);
        due("gcd of four limbs", get(mill, 3), common);
        gcdBy(way, mill, 3, 2, 2);
        due("gcd of one register", get(mill, 3), FULL);
        String before = all(mill);
        due("none", gcdBy(way, mill, 5, 0, 1) + gcdBy(way, mill, 0, -1, 1) + gcdBy(way, mill, 0, 1, 5), 9);
        due("unchanged", all(mill), before);
    }

    private static void gcdBinary() {
        promise = 11;
        gcdWay(0);
    }

    private static void gcdEuclid() {
        promise = 12;
        gcdWay(1);
    }

    private static void gcdLehmer() {
        promise = 13;
        gcdWay(2);
    }

    private static void lastSteps() {
        promise = 14;
        due("ahead of any", mill().lastSteps(), 0);
        // from here on: how many, worked out by hand from the document
        due("both 0", stepsOf(0, 0), 0);
        due("one limb each", stepsOf(4294967295L, 4294967291L), 0);
        due("two limbs and one", stepsOf(4294967296L, 3), 1);
        due("one and two limbs", stepsOf(3, 4294967296L), 1);
        due("two limbs and 0", stepsOf(4294967296L, 0), 0);
        due("equal", stepsOf(FULL, FULL.negate()), 1);
        due("V is 0", stepsOf(BigInteger.ONE.shiftLeft(127), BigInteger.ONE.shiftLeft(32)), 1);
        due("V + D is 0 at once", stepsOf(BigInteger.ONE.shiftLeft(64), BigInteger.ONE.shiftLeft(64).subtract(BigInteger.ONE)), 1);
        GcdMill mill = mill(FULL, FULL, 3);
        mill.gcdLehmer(4, 0, 1);
        mill.gcdLehmer(5, 2, 2);
        due("not done", mill.lastSteps(), 1);
        mill.gcdEuclid(4, 2, 2);
        mill.gcdBinary(4, 2, 2);
        due("another way", mill.lastSteps(), 1);
        mill.gcdLehmer(4, 2, 2);
        due("done without a step", mill.lastSteps(), 0);
    }

    private static int stepsOf(Object a, Object b) {
        GcdMill mill = mill(a, b);
        mill.gcdLehmer(2, 0, 1);
        return mill.lastSteps();
    }

    private static void bezout() {
        promise = 15;
        long[][] cases = {{0, 0, 0, 1, 0}, {5, 0, 5, 1, 0}, {-5, 0, 5, -1, 0}, {0, 5, 5, 0, 1}, {0, -5, 5, 0, -1}, {240, 46, 2, -9, 47},
            {-240, 46, 2, 9, 47}, {240, -46, 2, -9, -47}, {46, 240, 2, 47, -9}, {-46, -240, 2, -47, 9}, {7, 7, 7, 0, 1}, {-7, 7, 7, 0, 1},
            {3, 6, 3, 1, 0}, {6, 3, 3, 0, 1}, {1, 1, 1, 0, 1}, {LOW, 2, 2, 0, 1}};
        for (long[] one : cases) {
            GcdMill mill = new GcdMill(3, 1);
            set(mill, 0, BigInteger.valueOf(one[0]));
            set(mill, 1, BigInteger.valueOf(one[1]));
            due("bezout", mill.bezout(1, 2, 0, 0, 1), 0);
            due("bezout of " + one[0] + " and " + one[1], get(mill, 1) + " " + get(mill, 2) + " " + get(mill, 0),
                    one[2] + " " + one[3] + " " + one[4]);
        }
        GcdMill mill = mill(FULL, FULL.subtract(BigInteger.ONE), 3);
        due("factors as long as the numbers", mill.bezout(2, 3, 4, 0, 1), 0);
        due("factors as long as the numbers", get(mill, 2) + " " + get(mill, 3) + " " + get(mill, 4), "1 1 -1");
        String before = all(mill);
        due("two are one", mill.bezout(2, 2, 4, 0, 1) + mill.bezout(2, 3, 2, 0, 1) + mill.bezout(2, 3, 3, 0, 1), 9);
        due("none", mill.bezout(5, 3, 4, 0, 1) + mill.bezout(2, -1, 4, 0, 1) + mill.bezout(2, 3, 5, 0, 1)
                + mill.bezout(2, 3, 4, -1, 1) + mill.bezout(2, 3, 4, 0, 5), 15);
        due("unchanged", all(mill), before);
    }

    private static void inverse() {
        promise = 16;
        int[][] cases = {{3, 7, 5}, {-3, 7, 2}, {10, 7, 5}, {1, 2, 1}, {0, 1, 0}, {5, 1, 0}, {-5, 1, 0}, {6, 7, 6}, {-1, 7, 6}, {1, 9, 1}};
        for (int[] one : cases) {
            GcdMill mill = mill(one[0], one[1]);
            due("inverse", mill.inverse(2, 0, 1), 0);
            due("inverse of " + one[0] + " by " + one[1], get(mill, 2), one[2]);
        }
        GcdMill mill = mill(FULL.subtract(BigInteger.ONE), FULL, 0, -7, 6, 9);
        due("long", mill.inverse(1, 0, 1), 0);
        due("long, into what is read", get(mill, 1), FULL.subtract(BigInteger.ONE));
        String before = all(mill);
        due("n is 0", mill.inverse(6, 0, 2), 2);
        due("n is below 0", mill.inverse(6, 0, 3), 2);
        due("there is none", mill.inverse(6, 4, 5), 2);
        due("of 0 there is none", mill.inverse(6, 2, 5), 2);
        due("none", mill.inverse(8, 0, 1) + mill.inverse(0, -1, 1) + mill.inverse(0, 1, 8), 9);
        due("3 ahead of 2", mill.inverse(8, 0, 2), 3);
        due("unchanged", all(mill), before);
    }

    private static void power() {
        promise = 17;
        int[][] cases = {{2, 10, 1000, 24}, {2, 0, 5, 1}, {0, 0, 5, 1}, {0, 0, 1, 0}, {0, 3, 5, 0}, {7, 1, 5, 2}, {-2, 3, 5, 2},
            {-2, 2, 5, 4}, {9, 9, 1, 0}, {3, 5, 7, 5}, {-1, 1, 7, 6}, {5, 3, 5, 0}, {HIGH, HIGH, 1000003, 0}};
        for (int[] one : cases) {
            GcdMill mill = mill(one[0], one[1], one[2]);
            String want = BigInteger.valueOf(one[0]).modPow(BigInteger.valueOf(one[1]), BigInteger.valueOf(one[2])).toString();
            if (one[0] != HIGH) {
                due("the case itself", want, one[3]);
            }
            due("power", mill.power(3, 0, 1, 2), 0);
            due(one[0] + "^" + one[1] + " MOD " + one[2], get(mill, 3), want);
        }
        BigInteger prime = BigInteger.ONE.shiftLeft(127).subtract(BigInteger.ONE);
        GcdMill mill = mill(3, prime.subtract(BigInteger.ONE), prime, 0, -1);
        due("Fermat's", mill.power(0, 0, 1, 2), 0);
        due("Fermat's, into what is read", get(mill, 0), 1);
        String before = all(mill);
        due("e is below 0", mill.power(5, 0, 4, 2), 2);
        due("n is 0", mill.power(5, 0, 1, 3), 2);
        due("n is below 0", mill.power(5, 0, 1, 4), 2);
        due("none", mill.power(7, 0, 1, 2) + mill.power(5, -1, 1, 2) + mill.power(5, 0, 7, 2) + mill.power(5, 0, 1, -1), 12);
        due("3 ahead of 2", mill.power(7, 0, 4, 3), 3);
        due("unchanged", all(mill), before);
    }

    private static void isqrt() {
        promise = 18;
        for (int i = 0; i < 300; i++) {
            GcdMill mill = mill(i);
            due("isqrt", mill.isqrt(1, 0), 0);
            due("isqrt of " + i, get(mill, 1), BigInteger.valueOf(i).sqrt());
        }
        BigInteger side = BigInteger.ONE.shiftLeft(64).subtract(BigInteger.ONE);
        BigInteger square = side.multiply(side);
        BigInteger[] numbers = {square, square.subtract(BigInteger.ONE), FULL, BigInteger.ONE.shiftLeft(126), BigInteger.ONE.shiftLeft(127),
            BigInteger.ONE.shiftLeft(126).subtract(BigInteger.ONE)};
        for (BigInteger number : numbers) {
            GcdMill mill = mill(number);
            due("isqrt in place", mill.isqrt(0, 0), 0);
            due("isqrt of " + number, get(mill, 0), number.sqrt());
        }
        GcdMill mill = mill(-1, 4);
        due("below 0", mill.isqrt(2, 0), 2);
        due("none", mill.isqrt(4, 1) + mill.isqrt(0, -1), 6);
        due("3 ahead of 2", mill.isqrt(4, 0), 3);
        due("unchanged", all(mill), "-1 4 0 0");
    }

    private static void root() {
        promise = 19;
        int[][] cases = {{26, 3, 2}, {27, 3, 3}, {28, 3, 3}, {0, 1, 0}, {0, 9, 0}, {0, HIGH, 0}, {1, HIGH, 1}, {7, 1, 7}, {7, 3, 1}, {8, 3, 2},
            {8, 4, 1}, {HIGH, 31, 1}, {HIGH, 30, 2}, {HIGH, HIGH, 1}, {HIGH, 2, 46340}, {81, 4, 3}, {80, 4, 2}, {9, 3, 2}, {10, 3, 2}};
        for (int[] one : cases) {
            GcdMill mill = mill(one[0]);
            due("root", mill.root(1, 0, one[1]), 0);
            due("root " + one[1] + " of " + one[0], get(mill, 1), one[2]);
        }
        for (int k = 1; k <= 128; k++) {
            GcdMill mill = mill(FULL);
            due("root in place", mill.root(0, 0, k), 0);
            BigInteger found = new BigInteger(get(mill, 0));
            due("root " + k + " not too great", found.pow(k).compareTo(FULL) <= 0, true);
            due("root " + k + " not too small", found.add(BigInteger.ONE).pow(k).compareTo(FULL) > 0, true);
        }
        GcdMill mill = mill(-8, 8);
        due("below 0", mill.root(2, 0, 3), 2);
        due("k below 1", mill.root(2, 1, 0) + mill.root(2, 1, -1) + mill.root(2, 1, LOW), 6);
        due("none", mill.root(4, 1, 3) + mill.root(0, -1, 3), 6);
        due("3 ahead of 2", mill.root(4, 0, 0), 3);
        due("unchanged", all(mill), "-8 8 0 0");
    }

    private static void isSquare() {
        promise = 20;
        for (int i = -20; i < 300; i++) {
            int side = i < 0 ? 0 : BigInteger.valueOf(i).sqrt().intValue();
            GcdMill mill = mill(i);
            due("isSquare of " + i, mill.isSquare(0), side * side == i ? 1 : 0);
            due("unchanged", all(mill), i + " 0 0");
        }
        BigInteger side = BigInteger.ONE.shiftLeft(64).subtract(BigInteger.ONE);
        BigInteger square = side.multiply(side);
        GcdMill mill = mill(square, square.add(BigInteger.ONE), square.subtract(BigInteger.ONE), square.negate());
        due("long", mill.isSquare(0) + " " + mill.isSquare(1) + " " + mill.isSquare(2) + " " + mill.isSquare(3), "1 0 0 0");
        due("none", mill.isSquare(6) + mill.isSquare(-1), 6);
    }

    private static void jacobi() {
        promise = 21;
        int[][] cases = {{1, 1, 1}, {0, 1, 1}, {-9, 1, 1}, {0, 3, 0}, {1, 3, 1}, {2, 3, -1}, {-1, 3, -1}, {2, 7, 1}, {3, 7, -1}, {5, 7, -1},
            {1001, 9907, -1}, {19, 45, 1}, {8, 21, -1}, {5, 21, 1}, {3, 9, 0}, {2, 15, 1}, {7, 15, -1}, {-1, 5, 1}, {2, 5, -1}, {30, 7, 1}};
        for (int[] one : cases) {
            GcdMill mill = mill(one[0], one[1]);
            due("jacobi of " + one[0] + " over " + one[1], mill.jacobi(0, 1), one[2]);
            due("unchanged", all(mill), one[0] + " " + one[1] + " 0 0");
        }
        primesOfEuler();
        GcdMill mill = mill(3, 0, 4, -3);
        due("n is 0, even, below 0", mill.jacobi(0, 1) + mill.jacobi(0, 2) + mill.jacobi(0, 3), 6);
        due("none", mill.jacobi(6, 0) + mill.jacobi(0, -1), 6);
        due("3 ahead of 2", mill.jacobi(6, 1), 3);
    }

    /** Over a prime p the symbol is a^((p - 1) / 2). */
    private static void primesOfEuler() {
        BigInteger prime = BigInteger.ONE.shiftLeft(127).subtract(BigInteger.ONE);
        for (int i = 1; i < 60; i++) {
            BigInteger a = FULL.divide(BigInteger.valueOf(i));
            BigInteger euler = a.modPow(prime.shiftRight(1), prime);
            int want = euler.compareTo(BigInteger.ONE) <= 0 ? euler.intValue() : -1;
            due("jacobi of " + a + " over a prime", mill(a, prime).jacobi(0, 1), want);
        }
    }

    private static String signOf(GcdMill mill, int r) {
        try {
            return "" + mill.sign(r);
        } catch (NoSuchElementException e) {
            return THROWS;
        }
    }

    private static void sign() {
        promise = 22;
        GcdMill mill = mill(5, -5, FULL, FULL.negate());
        due("sign", signOf(mill, 0) + signOf(mill, 1) + signOf(mill, 2) + signOf(mill, 3) + signOf(mill, 4), "1-11-10");
        due("none", signOf(mill, 6), THROWS);
        due("none", signOf(mill, -1), THROWS);
        due("none", signOf(mill, LOW), THROWS);
    }

    private static String lengthOf(GcdMill mill, int r) {
        try {
            return "" + mill.length(r);
        } catch (NoSuchElementException e) {
            return THROWS;
        }
    }

    private static void length() {
        promise = 23;
        GcdMill mill = mill(0, 1, 4294967295L, 4294967296L, FULL.negate());
        due("length", lengthOf(mill, 0) + lengthOf(mill, 1) + lengthOf(mill, 2) + lengthOf(mill, 3) + lengthOf(mill, 4), "01124");
        mill.subtract(3, 3, 1);
        due("less behind a difference", lengthOf(mill, 3), 1);
        due("none", lengthOf(mill, 7), THROWS);
        due("none", lengthOf(mill, -1), THROWS);
    }

    private static String limbOf(GcdMill mill, int r, int i) {
        try {
            return "" + mill.limbAt(r, i);
        } catch (NoSuchElementException e) {
            return THROWS;
        }
    }

    private static void limbAt() {
        promise = 24;
        GcdMill mill = mill(new BigInteger("-00000007ffffffff80000000", 16));
        due("limbs", limbOf(mill, 0, 0) + " " + limbOf(mill, 0, 1) + " " + limbOf(mill, 0, 2), LOW + " -1 7");
        due("where there is none", limbOf(mill, 0, 3) + limbOf(mill, 0, -1) + limbOf(mill, 0, HIGH) + limbOf(mill, 0, LOW)
                + limbOf(mill, 1, 0), "00000");
        mill.shift(0, 0, -64);
        due("what was there is gone", limbOf(mill, 0, 1) + limbOf(mill, 0, 2), "00");
        due("none", limbOf(mill, 3, 0), THROWS);
        due("none", limbOf(mill, -1, -1), THROWS);
    }

    private static void feed() {
        promise = 25;
        GcdMill mill = mill();
        for (int i = 1; i <= 50; i++) {
            due("feed", mill.feed(0x31323334, 0x35363738, 0x39303132, 0x33343536, 0x37383930), 20 * i);
        }
        due("full", mill.feed(0, 0, 0, 0, 0), -1);
        due("none came", mill.count(2), 1000);
        mill.end(981);
        due("19 free", mill.feed(0, 0, 0, 0, 0), -1);
        due("none came", mill.count(2), 981);
        mill.end(980);
        due("20 free", mill.feed(0, 0, 0, 0, 0), 1000);
        mill.end(20);
        due("the highest byte first", mill.read(0), 0);
        due("the highest byte first", get(mill, 0), "12345678901234567890");
    }

    private static void end() {
        promise = 26;
        GcdMill mill = mill();
        due("of an empty tape", mill.end(0), true);
        due("of an empty tape", mill.end(1), false);
        feedText(mill, "12345678901234567890");
        due("more than it has", mill.end(21), false);
        due("below 0", mill.end(-1), false);
        due("below 0", mill.end(LOW), false);
        due("far more", mill.end(HIGH), false);
        due("unchanged", mill.count(2), 20);
        due("all", mill.end(20), true);
        due("the first", mill.end(3), true);
        due("the first", mill.count(2), 3);
        due("what was cut off does not come back", mill.end(4), false);
        mill.read(0);
        due("the first", get(mill, 0), 123);
    }

    private static String readOf(GcdMill mill, String text) {
        mill.end(0);
        feedText(mill, text);
        int answer = mill.read(0);
        return answer + " " + get(mill, 0) + " " + mill.count(2);
    }

    private static void read() {
        promise = 27;
        GcdMill mill = mill();
        String[][] good = {{"0", "0"}, {"-0", "0"}, {"-000", "0"}, {"7", "7"}, {"-7", "-7"}, {"007", "7"}, {"-0070", "-70"},
            {"4294967296", "4294967296"}, {"999999999", "999999999"}, {"1000000000", "1000000000"}, {FULL.toString(), FULL.toString()},
            {"-" + FULL, "-" + FULL}, {"0".repeat(900) + FULL, FULL.toString()}, {"0".repeat(1000), "0"}};
        for (String[] one : good) {
            due("read " + one[0], readOf(mill, one[0]), "0 " + one[1] + " 0");
        }
        due("0 has no sign", readOf(mill, "-0") + " " + mill.sign(0), "0 0 0 0");
        mill = mill(-42);
        String[] bad = {"", "-", "--1", "1-", "+1", " 1", "1 ", "1a", "/", ":", "1.0", "12" + (char) 0, "" + (char) 178, "1" + (char) 0xB0 + "2"};
        for (String one : bad) {
            due("read " + one, readOf(mill, one), "2 -42 0");
        }
        String over = FULL.add(BigInteger.ONE).toString();
        due("no room", readOf(mill, over), "1 -42 0");
        due("no room", readOf(mill, "-" + over), "1 -42 0");
        due("no room", readOf(mill, "9".repeat(1000)), "1 -42 0");
        due("2 ahead of 1", readOf(mill, "9".repeat(999) + "x"), "2 -42 0");
        mill.end(0);
        feedText(mill, "17");
        due("none", mill.read(3) + mill.read(-1), 6);
        due("the tape is there with 3", mill.count(2), 2);
        due("read", mill.read(0), 0);
        due("then", get(mill, 0) + " " + mill.count(2), "17 0");
    }

    private static String writeOf(GcdMill mill, int r) {
        try {
            return "" + mill.write(r);
        } catch (NoSuchElementException e) {
            return THROWS;
        }
    }

    private static void write() {
        promise = 28;
        String[] texts = {"0", "1", "-1", "9", "10", "999999999", "1000000000", "-1000000000", "1000000000000000000", "1000000001000000001",
            "4294967295", "-4294967296", FULL.toString(), "-" + FULL, "100000000000000000000000000000000000000"};
        for (String text : texts) {
            GcdMill mill = mill(text);
            due("write", writeOf(mill, 0), text.length());
            due("OUT", outText(mill), text);
            due("unchanged", all(mill), text + " 0 0");
            due("none", writeOf(mill, 3) + writeOf(mill, -1), THROWS + THROWS);
            due("OUT stays", outText(mill), text);
            due("0 behind it", writeOf(mill, 1), 1);
            due("OUT is what was written last", outText(mill), "0");
        }
        GcdMill widest = new GcdMill(1, 40);
        for (int i = 0; i < 40; i++) {
            widest.pushLimb(0, -1);
        }
        widest.negate(0, 0);
        due("the longest", writeOf(widest, 0), 387);
        due("the longest", outText(widest), BigInteger.ONE.subtract(BigInteger.ONE.shiftLeft(1280)));
    }

    private static void octet() {
        promise = 29;
        GcdMill mill = mill(-305);
        due("ahead of any", mill.octet(0) + mill.octet(-1), -2);
        mill.write(0);
        due("octets", mill.octet(0) + " " + mill.octet(1) + " " + mill.octet(2) + " " + mill.octet(3), "45 51 48 53");
        due("none such", mill.octet(4) + mill.octet(-1) + mill.octet(HIGH) + mill.octet(LOW), -4);
        mill.write(1);
        due("less behind it", mill.octet(0) + " " + mill.octet(1), "48 -1");
    }

    private static void count() {
        promise = 30;
        GcdMill mill = new GcdMill(7, 9);
        due("at first", mill.count(0) + " " + mill.count(1) + " " + mill.count(2) + " " + mill.count(3), "7 9 0 0");
        mill.pushLimb(0, 123);
        mill.write(0);
        feedText(mill, "12345");
        due("then", mill.count(0) + " " + mill.count(1) + " " + mill.count(2) + " " + mill.count(3), "7 9 5 3");
        due("another what", mill.count(4) + mill.count(-1) + mill.count(HIGH) + mill.count(LOW), -4);
    }
}
