import java.math.BigInteger;
import java.util.NoSuchElementException;
import java.util.function.ToIntFunction;

/**
 * A test of its own for each sentence of the document that names a boundary case: too small, too
 * large, empty, full, a wrap-around, a refused call. What is due is written out, and only for the
 * widest numbers worked out by BigInteger.
 */
public final class GcdMillEdges {
    private static final int LOW = Integer.MIN_VALUE;
    private static final int HIGH = Integer.MAX_VALUE;
    private static final BigInteger ONE = BigInteger.ONE;
    /** Of width 2, which the mills here have where nothing else is told. */
    private static final BigInteger FULL = two(64).subtract(ONE);
    private static final BigInteger LESS = FULL.subtract(ONE);
    private static final int[] WIDTHS = {1, 2, 3, 39, 40};

    private static String sentence = "";
    private static int tests = 0;
    private static int wrong = 0;

    public static void main(String[] args) {
        registersOfTerms();
        answersOfTerms();
        nothingIsChanged();
        mayBeOne();
        actsBehindOthers();
        quotientsOfTerms();
        factorsOfTerms();
        lehmerOfTerms();
        tapeOfTerms();
        newObject();
        pushLimb();
        clearAndNegate();
        addAndSubtract();
        multiply();
        divide();
        shiftUp();
        shiftDown();
        compare();
        gcdBinary();
        gcdEuclid();
        gcdLehmer();
        lastSteps();
        bezout();
        inverse();
        power();
        isqrt();
        root();
        isSquare();
        jacobi();
        signAndLength();
        limbAt();
        feed();
        end();
        read();
        write();
        octet();
        count();
        System.out.println(tests + " sentences, " + wrong + " answers that are not as due");
        if (wrong != 0) {
            System.exit(1);
        }
    }

    private static void test(String words, Runnable body) {
        sentence = words;
        tests++;
        try {
            body.run();
        } catch (RuntimeException e) {
            due("the call", "throws " + e, "an answer");
        }
    }

    private static void due(String what, Object got, Object want) {
        if (!got.toString().equals(want.toString())) {
            wrong++;
            System.out.println(sentence + ": " + what + ": " + got + ", due is " + want);
        }
    }

    private static BigInteger two(int n) {
        return ONE.shiftLeft(n);
    }

    private static BigInteger number(Object written) {
        return new BigInteger(written.toString());
    }

    private static BigInteger greatest(int width) {
        return two(32 * width).subtract(ONE);
    }

    private static void set(GcdMill mill, int r, Object written) {
        BigInteger value = number(written);
        BigInteger size = value.abs();
        mill.clear(r);
        for (int i = (size.bitLength() + 31) / 32 - 1; i >= 0; i--) {
            mill.pushLimb(r, size.shiftRight(32 * i).intValue());
        }
        if (value.signum() < 0) {
            mill.negate(r, r);
        }
    }

    private static String get(GcdMill mill, int r) {
        BigInteger size = BigInteger.ZERO;
        for (int i = mill.length(r) - 1; i >= 0; i--) {
            size = size.shiftLeft(32).add(BigInteger.valueOf(mill.limbAt(r, i) & 0xFFFFFFFFL));
        }
        BigInteger value = mill.sign(r) < 0 ? size.negate() : size;
        boolean sound = value.signum() == mill.sign(r) && (size.bitLength() + 31) / 32 == mill.length(r);
        return sound ? value.toString() : value + " (sign " + mill.sign(r) + ", length " + mill.length(r) + ")";
    }

    private static String numbers(GcdMill mill) {
        StringBuilder text = new StringBuilder();
        for (int r = 0; r < mill.count(0); r++) {
            text.append(r == 0 ? "" : " ").append(get(mill, r));
        }
        return text.toString();
    }

    private static String out(GcdMill mill) {
        StringBuilder text = new StringBuilder();
        int count = mill.count(3);
        for (int k = 0; k < count; k++) {
            text.append((char) mill.octet(k));
        }
        return text.toString();
    }

    /** What no act but gcdLehmer, read and write changes. */
    private static String beside(GcdMill mill) {
        return "tape " + mill.count(2) + " OUT " + out(mill) + " steps " + mill.lastSteps();
    }

    private static String written(Object... values) {
        StringBuilder text = new StringBuilder();
        for (Object value : values) {
            text.append(text.length() == 0 ? "" : " ").append(value);
        }
        return text.toString();
    }

    private static GcdMill wide(int width, Object... values) {
        GcdMill mill = new GcdMill(values.length, width);
        for (int r = 0; r < values.length; r++) {
            set(mill, r, values[r]);
        }
        return mill;
    }

    /** A mill of width 2 with these numbers, a STEP or two, -77 in OUT and 314 on the tape. */
    private static GcdMill busy(Object... values) {
        GcdMill mill = new GcdMill(values.length, 2);
        set(mill, 0, FULL);
        set(mill, values.length - 1, two(32));
        mill.gcdLehmer(0, 0, values.length - 1);
        set(mill, 0, -77);
        mill.write(0);
        tape(mill, "314");
        for (int r = 0; r < values.length; r++) {
            set(mill, r, values[r]);
        }
        return mill;
    }

    /** The text comes behind what the tape has. */
    private static void tape(GcdMill mill, String text) {
        int from = mill.count(2);
        int[] five = new int[5];
        for (int at = 0; at < text.length(); at += 20) {
            for (int i = 0; i < 20; i++) {
                five[i / 4] = five[i / 4] << 8 | (at + i < text.length() ? text.charAt(at + i) : 0);
            }
            mill.feed(five[0], five[1], five[2], five[3], five[4]);
        }
        mill.end(from + text.length());
    }

    /** The act answers 0, and the registers have what is written then. */
    private static void done(ToIntFunction<GcdMill> act, String then, Object... values) {
        GcdMill mill = busy(values);
        String before = beside(mill);
        due("of " + written(values), act.applyAsInt(mill), 0);
        due("registers that had " + written(values), numbers(mill), then);
        due("beside them", beside(mill), before);
    }

    /** The act gives this answer and changes nothing at all. */
    private static void answers(int want, ToIntFunction<GcdMill> act, Object... values) {
        GcdMill mill = busy(values);
        String before = beside(mill);
        due("of " + written(values), act.applyAsInt(mill), want);
        due("registers", numbers(mill), written(values));
        due("beside them", beside(mill), before);
        due("the tape", mill.read(0) + " " + get(mill, 0), "0 314");
    }

    private interface OneRegister {
        int act(GcdMill mill, int r);
    }

    /** Of three registers, each one that is none is refused with 3. */
    private static void refuses(OneRegister place, Object... values) {
        int[] none = {-1, 3, 4, 16, LOW, HIGH, -2, LOW + 1};
        due("values", values.length, 3);
        for (int r : none) {
            answers(3, mill -> place.act(mill, r), values);
        }
    }

    private static void registersOfTerms() {
        test("Terms: registers have 0 at first", () -> {
            for (int width : WIDTHS) {
                GcdMill mill = new GcdMill(16, width);
                for (int r = 0; r < 16; r++) {
                    due("register " + r, get(mill, r) + mill.sign(r) + mill.length(r) + mill.limbAt(r, 0), "0000");
                }
            }
        });
        test("Terms: the SIZE of one is less than 2^(32 WIDTH)", () -> {
            for (int width : WIDTHS) {
                GcdMill mill = wide(width, greatest(width).subtract(ONE), 1, 0, 0);
                due("one less", mill.add(2, 0, 1), 0);
                due("one less", get(mill, 2), greatest(width));
                due("2^(32 WIDTH)", mill.add(3, 2, 1), 1);
                due("nothing", get(mill, 3), 0);
            }
        });
        test("Terms: the SIZE of one below 0 is less than 2^(32 WIDTH)", () -> {
            for (int width : WIDTHS) {
                GcdMill mill = wide(width, greatest(width).subtract(ONE).negate(), 1, 0, 0);
                due("one less", mill.subtract(2, 0, 1), 0);
                due("one less", get(mill, 2), greatest(width).negate());
                due("2^(32 WIDTH)", mill.subtract(3, 2, 1), 1);
                due("nothing", get(mill, 3), 0);
            }
        });
        test("Terms: LIMBS are to the base 2^32, the lowest first", () -> {
            GcdMill mill = wide(3, two(64).multiply(number(7)).add(two(32).multiply(number(6))).add(number(5)));
            due("limbs", mill.limbAt(0, 0) + " " + mill.limbAt(0, 1) + " " + mill.limbAt(0, 2), "5 6 7");
            due("LENGTH", mill.length(0), 3);
        });
        test("Terms: 0 has no LIMBS", () -> {
            GcdMill mill = wide(2, FULL, FULL);
            mill.subtract(0, 0, 1);
            due("LENGTH and limbs", mill.length(0) + " " + mill.limbAt(0, 0) + " " + mill.limbAt(0, 1), "0 0 0");
        });
    }

    private static void answersOfTerms() {
        test("Terms: 3 comes ahead of 2", () -> {
            answers(3, m -> m.divide(0, 3, 0, 2), 5, 6, 0);
            answers(3, m -> m.divide(1, 1, 0, 2), 5, 6, 0);
            answers(3, m -> m.divide(0, 1, 3, 2), 5, 6, 0);
            answers(3, m -> m.inverse(3, 0, 2), 5, 6, 0);
            answers(3, m -> m.inverse(0, 3, 2), 5, 6, 0);
            answers(3, m -> m.power(3, 0, 1, 2), 5, -6, 0);
            answers(3, m -> m.power(0, 3, 1, 2), 5, -6, 0);
            answers(3, m -> m.power(0, 0, 3, 2), 5, -6, 0);
            answers(3, m -> m.power(0, 0, 1, 3), 5, -6, 0);
            answers(3, m -> m.isqrt(3, 0), -5, 6, 0);
            answers(3, m -> m.root(3, 0, 2), -5, 6, 0);
            answers(3, m -> m.root(3, 1, 0), -5, 6, 0);
            answers(3, m -> m.root(0, 3, 0), -5, 6, 0);
            answers(3, m -> m.jacobi(3, 1), -5, 6, 0);
        });
        test("Terms: 3 comes ahead of 1", () -> {
            answers(3, m -> m.add(3, 0, 0), FULL, 1, 0);
            answers(3, m -> m.subtract(3, 0, 1), FULL, -1, 0);
            answers(3, m -> m.multiply(3, 0, 0), FULL, 1, 0);
            answers(3, m -> m.shift(3, 0, 1), FULL, 1, 0);
            answers(3, m -> m.shift(3, 0, HIGH), FULL, 1, 0);
        });
        test("Terms: 3 comes ahead of 2 and 1 of read", () -> {
            for (String text : new String[] {"", "-", "x1", "9".repeat(40)}) {
                GcdMill mill = wide(2, 8);
                tape(mill, text);
                due("read of " + text, mill.read(1) + " " + get(mill, 0) + " " + mill.count(2), "3 8 " + text.length());
            }
        });
        test("Terms: 2 comes ahead of 1", () -> {
            GcdMill mill = wide(1, 8);
            tape(mill, "9".repeat(40) + "x");
            due("read", mill.read(0) + " " + get(mill, 0), "2 8");
            tape(mill, "-" + "9".repeat(40) + "-");
            due("read", mill.read(0) + " " + get(mill, 0), "2 8");
        });
    }

    private static void nothingIsChanged() {
        test("Terms: with 1 nothing is changed", () -> {
            answers(1, m -> m.pushLimb(0, 0), FULL, -1, 7);
            answers(1, m -> m.add(0, 0, 0), FULL, -1, 7);
            answers(1, m -> m.add(2, 0, 0), FULL, -1, 7);
            answers(1, m -> m.subtract(1, 0, 1), FULL, -1, 7);
            answers(1, m -> m.multiply(2, 2, 0), FULL, -1, 7);
            answers(1, m -> m.multiply(0, 0, 0), FULL, -1, 7);
            answers(1, m -> m.shift(0, 0, 1), FULL, -1, 7);
            answers(1, m -> m.shift(2, 1, 64), FULL, -1, 7);
        });
        test("Terms: with 2 nothing is changed", () -> {
            answers(2, m -> m.divide(0, 1, 0, 2), 7, -8, 0);
            answers(2, m -> m.divide(2, 1, 0, 2), 7, -8, 0);
            answers(2, m -> m.inverse(0, 0, 2), 7, -8, 0);
            answers(2, m -> m.inverse(0, 0, 1), 7, -8, 0);
            answers(2, m -> m.inverse(1, 0, 2), 6, 4, 8);
            answers(2, m -> m.power(0, 0, 1, 0), 7, -8, 0);
            answers(2, m -> m.power(0, 0, 0, 2), 7, -8, 0);
            answers(2, m -> m.isqrt(0, 1), 7, -8, 0);
            answers(2, m -> m.root(0, 1, 3), 7, -8, 0);
            answers(2, m -> m.root(1, 0, 0), 7, -8, 0);
            answers(2, m -> m.jacobi(0, 2), 7, -8, 0);
        });
        test("Terms: with 3 nothing is changed", () -> {
            answers(3, m -> m.divide(2, 2, 0, 1), FULL, 5, 6);
            answers(3, m -> m.bezout(0, 0, 2, 0, 1), FULL, 5, 6);
            answers(3, m -> m.gcdLehmer(3, 0, 1), FULL, 5, 6);
            answers(3, m -> m.gcdLehmer(0, 3, 1), FULL, 5, 6);
            answers(3, m -> m.read(3), FULL, 5, 6);
            answers(3, m -> m.read(-1), FULL, 5, 6);
        });
        test("Terms: acts that answer without a register to write change nothing", () -> {
            answers(1, m -> m.compare(0, 1), FULL, -5, 9);
            answers(-1, m -> m.compare(1, 0), FULL, -5, 9);
            answers(1, m -> m.isSquare(2), FULL, -5, 9);
            answers(0, m -> m.isSquare(0), FULL, -5, 9);
            answers(0, m -> m.jacobi(2, 2), FULL, -5, 9);
            answers(2, m -> m.jacobi(0, 1), FULL, -5, 9);
        });
    }

    private static void mayBeOne() {
        test("Terms: of two registers d and a may be one", () -> {
            done(m -> m.negate(0, 0), "-5", 5);
            done(m -> m.shift(0, 0, 33), two(33).negate() + "", -1);
            done(m -> m.shift(0, 0, -33), two(31).subtract(ONE) + "", FULL);
            done(m -> m.isqrt(0, 0), "4294967295", FULL);
            done(m -> m.root(0, 0, 64), "1", FULL);
            done(m -> m.root(0, 0, 1), FULL + "", FULL);
        });
        test("Terms: of three registers all may be one", () -> {
            done(m -> m.add(0, 0, 0), LESS + "", two(63).subtract(ONE));
            done(m -> m.subtract(0, 0, 0), "0", FULL.negate());
            done(m -> m.multiply(0, 0, 0), "18446744065119617025", -4294967295L);
            done(m -> m.gcdBinary(0, 0, 0), FULL + "", FULL.negate());
            done(m -> m.gcdEuclid(0, 0, 0), FULL + "", FULL.negate());
            done(m -> m.inverse(0, 0, 0), "0", 1);
            done(m -> m.power(0, 0, 0, 0), "0", FULL);
            GcdMill mill = busy(FULL.negate());
            due("gcdLehmer", mill.gcdLehmer(0, 0, 0) + " " + get(mill, 0), "0 " + FULL);
        });
        test("Terms: d may be the second that is read", () -> {
            done(m -> m.add(1, 0, 1), "7 10", 7, 3);
            done(m -> m.subtract(1, 0, 1), "7 4", 7, 3);
            done(m -> m.multiply(1, 0, 1), "7 21", 7, 3);
            done(m -> m.gcdBinary(1, 0, 1), "12 6", 12, 18);
            done(m -> m.gcdEuclid(1, 0, 1), "12 6", 12, 18);
            done(m -> m.inverse(1, 0, 1), "3 5", 3, 7);
            done(m -> m.power(1, 0, 1, 2), "2 4 10", 2, 10, 10);
            done(m -> m.power(2, 0, 1, 2), "2 10 4", 2, 10, 10);
        });
        test("Terms: what divide reads is what was there ahead of it", () -> {
            done(m -> m.divide(0, 1, 0, 1), "-4 1", -7, 2);
            done(m -> m.divide(1, 0, 0, 1), "1 -4", -7, 2);
            done(m -> m.divide(0, 1, 1, 0), "0 2", -7, 2);
            done(m -> m.divide(1, 0, 1, 0), "2 0", -7, 2);
            done(m -> m.divide(0, 1, 0, 0), "1 0", -7, 2);
            done(m -> m.divide(1, 0, 0, 0), "0 1", -7, 2);
        });
        test("Terms: what bezout reads is what was there ahead of it", () -> {
            done(m -> m.bezout(0, 1, 2, 0, 1), "2 -9 47", 240, 46, 5);
            done(m -> m.bezout(1, 0, 2, 0, 1), "-9 2 47", 240, 46, 5);
            done(m -> m.bezout(2, 1, 0, 0, 1), "47 -9 2", 240, 46, 5);
            done(m -> m.bezout(2, 0, 1, 1, 0), "47 -9 2", 240, 46, 5);
            done(m -> m.bezout(0, 1, 2, 0, 0), "240 0 1", 240, 46, 5);
            done(m -> m.bezout(2, 0, 1, 0, 0), "0 1 240", 240, 46, 5);
        });
        test("Terms: registers that are read alone stay", () -> {
            done(m -> m.power(3, 0, 1, 2), "-2 3 5 2", -2, 3, 5, 9);
            done(m -> m.divide(2, 3, 0, 1), "-7 -2 4 1", -7, -2, 9, 9);
            done(m -> m.inverse(2, 0, 1), "-3 7 2", -3, 7, 9);
            done(m -> m.gcdBinary(2, 0, 1), "-12 -18 6", -12, -18, 9);
            done(m -> m.gcdEuclid(2, 0, 1), "-12 -18 6", -12, -18, 9);
            done(m -> m.bezout(2, 3, 4, 0, 1), "-240 -46 2 9 -47", -240, -46, 9, 9, 9);
        });
    }

    private static void actsBehindOthers() {
        test("Terms: what an act leaves in no register is nothing to the next one", () -> {
            GcdMill mill = wide(2, FULL.negate(), 12345, 0, 0, 0);
            mill.bezout(2, 3, 4, 0, 1);
            set(mill, 0, 5);
            mill.clear(1);
            due("bezout", mill.bezout(2, 3, 4, 0, 1) + " " + numbers(mill), "0 5 0 5 1 0");
            due("bezout", mill.bezout(2, 3, 4, 1, 0) + " " + numbers(mill), "0 5 0 5 0 1");
            due("bezout", mill.bezout(2, 3, 4, 1, 1) + " " + numbers(mill), "0 5 0 0 1 0");
            set(mill, 2, FULL);
            mill.isqrt(3, 2);
            due("isqrt of 0", mill.isqrt(3, 1) + " " + get(mill, 3), "0 0");
            mill.root(3, 2, 5);
            due("root of 0", mill.root(3, 1, 5) + " " + get(mill, 3), "0 0");
            due("root of 5", mill.root(3, 0, 2) + " " + get(mill, 3), "0 2");
        });
        test("Terms: a refused act is nothing to the next one", () -> {
            GcdMill mill = wide(2, FULL, -7, 2, 0, 0);
            mill.multiply(3, 0, 0);
            mill.add(3, 0, 2);
            mill.shift(3, 0, 1);
            mill.isqrt(3, 1);
            due("add", mill.add(3, 1, 2) + " " + get(mill, 3), "0 -5");
            due("negate", mill.negate(3, 4) + " " + get(mill, 3), "0 0");
            due("shift", mill.shift(3, 1, -1) + " " + get(mill, 3), "0 -4");
            due("divide", mill.divide(3, 4, 1, 2) + " " + numbers(mill), "0 " + written(FULL, -7, 2, -4, 1));
            due("pushLimb", mill.pushLimb(4, 3) + " " + get(mill, 4), "0 4294967299");
        });
        test("Terms: registers that had more LIMBS have fewer then", () -> {
            GcdMill mill = wide(3, greatest(3), 5, 3, 0);
            mill.negate(3, 0);
            due("add", mill.add(3, 1, 2) + " " + get(mill, 3) + " " + mill.length(3), "0 8 1");
            mill.negate(3, 0);
            due("inverse", mill.inverse(3, 1, 2) + " " + get(mill, 3) + " " + mill.length(3), "0 2 1");
            mill.negate(3, 0);
            due("gcdLehmer", mill.gcdLehmer(3, 1, 2) + " " + get(mill, 3) + " " + mill.length(3), "0 1 1");
            due("pushLimb", mill.pushLimb(3, 4) + " " + get(mill, 3), "0 4294967300");
        });
    }

    private static void quotient(Object a, Object b, Object q, Object m) {
        done(mill -> mill.divide(2, 3, 0, 1), written(a, b, q, m), a, b, 9, 9);
    }

    private static void quotientsOfTerms() {
        test("Terms: a = b (a DIV b) + a MOD b, whatever the signs", () -> {
            quotient(7, 2, 3, 1);
            quotient(-7, 2, -4, 1);
            quotient(7, -2, -3, 1);
            quotient(-7, -2, 4, 1);
        });
        test("Terms: a MOD b may be 0, whatever the signs", () -> {
            quotient(6, 2, 3, 0);
            quotient(-6, 2, -3, 0);
            quotient(6, -2, -3, 0);
            quotient(-6, -2, 3, 0);
            quotient(0, 2, 0, 0);
            quotient(0, -2, 0, 0);
        });
        test("Terms: a MOD b is less than the SIZE of b, which is above that of a", () -> {
            quotient(1, FULL, 0, 1);
            quotient(-1, FULL, -1, LESS);
            quotient(1, FULL.negate(), 0, 1);
            quotient(-1, FULL.negate(), 1, LESS);
            quotient(LESS.negate(), FULL, -1, 1);
            quotient(LESS, FULL, 0, LESS);
        });
        test("Terms: the greatest quotients", () -> {
            quotient(FULL, 1, FULL, 0);
            quotient(FULL, -1, FULL.negate(), 0);
            quotient(FULL.negate(), 1, FULL.negate(), 0);
            quotient(FULL.negate(), -1, FULL, 0);
            quotient(FULL.negate(), 2, two(63).negate(), 1);
            quotient(FULL.negate(), -2, two(63), 1);
            quotient(FULL, FULL, 1, 0);
            quotient(FULL.negate(), FULL, -1, 0);
        });
        test("Terms: quotients where a LIMB ends", () -> {
            quotient(two(32), 4294967295L, 1, 1);
            quotient(FULL, 4294967295L, 4294967297L, 0);
            quotient(FULL, two(32), 4294967295L, 4294967295L);
            quotient(FULL.negate(), two(32), two(32).negate(), 1);
            quotient(two(63), two(32), two(31), 0);
            quotient(FULL, 4294967297L, 4294967295L, 0);
        });
        test("Terms: quotients that are guessed too great from the highest LIMBS", () -> {
            String[][] cases = {{"80000000fffffffe00000000", "80000000ffffffff"}, {"80000000000000000000000000000000", "ffffffff00000001"},
                {"7fffffff800000010000000000000000", "800000008000000200000005"}, {"80000000000000000000000300000000", "200000000000000000000001"},
                {"fffffffffffffffeffffffffffffffff", "ffffffffffffffffffffffff"}, {"ffffffff00000000000000000000", "ffffffffffff"}};
            for (String[] one : cases) {
                BigInteger a = new BigInteger(one[0], 16);
                BigInteger b = new BigInteger(one[1], 16);
                GcdMill mill = wide(4, a, b, 0, 0);
                due("divide " + one[0], mill.divide(2, 3, 0, 1) + " " + get(mill, 2) + " " + get(mill, 3), written(0, a.divide(b), a.mod(b)));
            }
        });
    }

    private static void factors(long a, long b, long g, long x, long y) {
        done(m -> m.bezout(2, 3, 4, 0, 1), written(a, b, g, x, y), a, b, 9, 9, 9);
    }

    private static void factorsOfTerms() {
        test("FACTORS: of 0 and 0, where s is 0 at once", () -> factors(0, 0, 0, 1, 0));
        test("FACTORS: b is 0", () -> {
            factors(5, 0, 5, 1, 0);
            factors(-5, 0, 5, -1, 0);
            factors(1, 0, 1, 1, 0);
        });
        test("FACTORS: a is 0", () -> {
            factors(0, 5, 5, 0, 1);
            factors(0, -5, 5, 0, -1);
        });
        test("FACTORS: SIZES that are one", () -> {
            factors(7, 7, 7, 0, 1);
            factors(-7, 7, 7, 0, 1);
            factors(7, -7, 7, 0, -1);
            factors(-7, -7, 7, 0, -1);
            factors(1, 1, 1, 0, 1);
        });
        test("FACTORS: one number goes into the other", () -> {
            factors(3, 6, 3, 1, 0);
            factors(-3, 6, 3, -1, 0);
            factors(6, 3, 3, 0, 1);
            factors(6, -3, 3, 0, -1);
        });
        test("FACTORS: the SIZE of a is below that of b, so that q is 0 first", () -> {
            factors(46, 240, 2, 47, -9);
            factors(2, 3, 1, -1, 1);
        });
        test("FACTORS: - x if a is below 0, - y if b is below 0", () -> {
            factors(240, 46, 2, -9, 47);
            factors(-240, 46, 2, 9, 47);
            factors(240, -46, 2, -9, -47);
            factors(-240, -46, 2, 9, -47);
        });
    }

    private static void steps(int width, Object a, Object b, Object divisor, int want) {
        for (int turn = 0; turn < 2; turn++) {
            GcdMill mill = wide(width, turn == 0 ? a : b, turn == 0 ? b : a, 9);
            due("gcdLehmer of " + a + ", " + b, mill.gcdLehmer(2, 0, 1) + " " + get(mill, 2), "0 " + divisor);
            due("STEPS of " + a + ", " + b, mill.lastSteps(), want);
        }
    }

    private static void lehmerOfTerms() {
        test("LEHMER: numbers of one LIMB take no STEP", () -> {
            steps(1, 0, 0, 0, 0);
            steps(1, 4294967295L, 0, 4294967295L, 0);
            steps(1, 4294967295L, 4294967294L, 1, 0);
            steps(1, -4294967295L, 4294967295L, 4294967295L, 0);
        });
        test("LEHMER: v has one LIMB and u more, which is a STEP behind", () -> {
            steps(2, two(32), 4294967295L, 1, 1);
            steps(2, two(32), 1, 1, 1);
            steps(2, FULL.negate(), 15, 15, 1);
            steps(40, greatest(40), 4294967295L, 4294967295L, 1);
        });
        test("LEHMER: v is 0, which is no STEP behind", () -> {
            steps(2, two(32), 0, two(32), 0);
            steps(40, greatest(40), 0, greatest(40), 0);
        });
        test("LEHMER: v of two LIMBS is taken in the loop", () -> {
            steps(2, two(32), two(32), two(32), 1);
            steps(2, FULL, FULL.negate(), FULL, 1);
            steps(2, two(33), two(32), two(32), 1);
        });
        test("LEHMER: a STEP in the loop and another one behind", () -> steps(3, two(95).add(number(5)), two(32), 1, 2));
        test("LEHMER: V + C is 0, for V is", () -> {
            steps(3, two(95), two(32), two(32), 1);
            steps(40, two(1279), two(32), two(32), 1);
        });
        test("LEHMER: V + D is 0 behind the first quotient", () -> steps(3, two(64), FULL, 1, 1));
        test("LEHMER: no STEP where A u + B v, C u + D v have one LIMB", () -> {
            steps(2, 7778742049L, 4807526976L, 1, 0);
            steps(2, -7778742049L, 4807526976L, 1, 0);
        });
        test("LEHMER: numbers whose quotients are all 1", () -> {
            // Fibonacci's numbers 120 and 119: the loop has every part but a STEP of its own
            steps(3, "5358359254990966640871840", "3311648143516982017180081", 1, 0);
        });
        test("LEHMER: q is (U + A) DIV (V + C) and must be (U + B) DIV (V + D)", () -> {
            // pairs at which a sign that is wrong there gives other STEPS or another DIVISOR
            steps(2, 842955702395920L, 400071263103727L, 1, 0);
            steps(2, 361966869035506L, 106744502603574L, 2, 0);
            steps(2, 354105758135227L, 327915989177222L, 1, 0);
            steps(2, 331353012588438L, 9828644124L, 6, 1);
            steps(2, 597003239785L, 596912219309L, 1, 1);
            steps(2, 213192113164865L, 20516927273376L, 1, 0);
            steps(2, 421348695638576L, 121679104346L, 2, 0);
            steps(2, 513031402117184L, 12295043220L, 4, 1);
            steps(2, "16150794106880616443", "1221711044809771577", 1, 1);
        });
        test("LEHMER: the loop goes on with u, v that it made", () -> {
            steps(3, "65939564620411438311223860567", "32152651266786924749045947099", 1, 1);
            steps(3, "2625419151170880112522016595", "63596685530950835240241242757", 9, 0);
            steps(3, "32090658203549320921517172487", "36481543737412595490569911316", 1, 1);
        });
    }

    private static void tapeOfTerms() {
        test("DIGITS: the TAPE has at most 1000 bytes", () -> {
            GcdMill mill = new GcdMill(1, 1);
            for (int i = 0; i < 50; i++) {
                mill.feed(0x30303030, 0x30303030, 0x30303030, 0x30303030, 0x30303037);
            }
            due("bytes", mill.count(2), 1000);
            due("one feed more", mill.feed(0x30303030, 0, 0, 0, 0) + " " + mill.count(2), "-1 1000");
        });
        test("DIGITS: 1000 bytes are read whole", () -> {
            GcdMill mill = new GcdMill(1, 40);
            tape(mill, "0".repeat(614) + greatest(40));
            due("bytes", mill.count(2), 1000);
            due("read", mill.read(0) + " " + get(mill, 0) + " " + mill.count(2), "0 " + greatest(40) + " 0");
        });
        test("DIGITS: no 0s ahead of others when they are written", () -> {
            GcdMill mill = new GcdMill(1, 2);
            tape(mill, "-000120");
            mill.read(0);
            due("written", mill.write(0) + " " + out(mill), "4 -120");
        });
        test("DIGITS: 0 itself is 0, without -", () -> {
            GcdMill mill = new GcdMill(1, 2);
            tape(mill, "-00");
            mill.read(0);
            due("written", mill.write(0) + " " + out(mill), "1 0");
            mill.negate(0, 0);
            due("written", mill.write(0) + " " + out(mill), "1 0");
        });
    }

    private static void counts(int registers, int width, String want) {
        GcdMill mill = new GcdMill(registers, width);
        due("new GcdMill(" + registers + ", " + width + ")", mill.count(0) + " " + mill.count(1), want);
        int last = mill.count(0) - 1;
        due("the last register", mill.clear(last) + " " + mill.clear(last + 1), "true false");
        for (int i = 0; i < mill.count(1); i++) {
            due("a limb that has room", mill.pushLimb(last, 1), 0);
        }
        due("a limb that has not", mill.pushLimb(last, 1), 1);
        due("the length", mill.length(last), mill.count(1));
    }

    private static void newObject() {
        test("Promise 1: REGISTERS is 1 if registers is less", () -> {
            counts(1, 3, "1 3");
            counts(0, 3, "1 3");
            counts(-1, 3, "1 3");
            counts(LOW, 3, "1 3");
        });
        test("Promise 1: REGISTERS is 16 if registers is more", () -> {
            counts(15, 3, "15 3");
            counts(16, 3, "16 3");
            counts(17, 3, "16 3");
            counts(HIGH, 3, "16 3");
        });
        test("Promise 1: WIDTH is 1 if width is less", () -> {
            counts(2, 1, "2 1");
            counts(2, 0, "2 1");
            counts(2, -1, "2 1");
            counts(2, LOW, "2 1");
        });
        test("Promise 1: WIDTH is 40 if width is more", () -> {
            counts(2, 39, "2 39");
            counts(2, 40, "2 40");
            counts(2, 41, "2 40");
            counts(2, HIGH, "2 40");
        });
        test("Promise 1: both", () -> {
            counts(LOW, HIGH, "1 40");
            counts(HIGH, LOW, "16 1");
        });
    }

    private static void pushLimb() {
        test("Promise 2: w is 32 bits without a sign", () -> {
            done(m -> m.pushLimb(0, -1), "4294967295", 0);
            done(m -> m.pushLimb(0, LOW), "2147483648", 0);
            done(m -> m.pushLimb(0, HIGH), "2147483647", 0);
            done(m -> m.pushLimb(0, -1), "8589934591", 1);
        });
        test("Promise 2: its sign stays", () -> {
            done(m -> m.pushLimb(0, 0), "-4294967296", -1);
            done(m -> m.pushLimb(0, -1), "-8589934591", -1);
        });
        test("Promise 2: none of 0", () -> {
            done(m -> m.pushLimb(0, 0), "0", 0);
            GcdMill mill = wide(1, -3);
            mill.add(0, 0, 0);
            mill.subtract(0, 0, 0);
            due("limb", mill.pushLimb(0, 3) + " " + get(mill, 0), "0 3");
        });
        test("Promise 2: 0 takes limbs of 0 without an end", () -> {
            GcdMill mill = new GcdMill(1, 1);
            for (int i = 0; i < 100; i++) {
                due("limb", mill.pushLimb(0, 0), 0);
            }
            due("then", mill.pushLimb(0, 5) + " " + get(mill, 0) + " " + mill.pushLimb(0, 0), "0 5 1");
        });
        test("Promise 2: 3", () -> refuses((m, r) -> m.pushLimb(r, 1), 0, FULL, -4));
        test("Promise 2: 1, as soon as a LIMB would be lost", () -> {
            answers(1, m -> m.pushLimb(0, 0), two(32));
            answers(1, m -> m.pushLimb(0, -1), two(32).negate());
            done(m -> m.pushLimb(0, -1), FULL + "", 4294967295L);
            done(m -> m.pushLimb(0, -1), FULL.negate() + "", -4294967295L);
        });
    }

    private static void clearAndNegate() {
        test("Promise 3: register r has 0: true", () -> {
            done(m -> m.clear(1) ? 0 : 9, "5 0 -7", 5, FULL.negate(), -7);
            done(m -> m.clear(2) ? 0 : 9, "5 6 0", 5, 6, 0);
        });
        test("Promise 3: false if it is none", () -> refuses((m, r) -> m.clear(r) ? 9 : 3, 5, 6, 7));
        test("Promise 4: -a of the greatest and the least", () -> {
            done(m -> m.negate(1, 0), FULL + " " + FULL.negate(), FULL, 9);
            done(m -> m.negate(1, 0), FULL.negate() + " " + FULL, FULL.negate(), 9);
            done(m -> m.negate(1, 0), two(31) + " " + two(31).negate(), two(31), 9);
        });
        test("Promise 4: -0 is 0", () -> {
            GcdMill mill = wide(1, 0, -9);
            due("negate", mill.negate(1, 0) + " " + mill.sign(1) + " " + mill.compare(0, 1), "0 0 0");
        });
        test("Promise 4: 3", () -> {
            refuses((m, r) -> m.negate(r, 0), 5, 6, 7);
            refuses((m, r) -> m.negate(0, r), 5, 6, 7);
        });
    }

    private static void addAndSubtract() {
        test("Promise 5: a + b goes through 0", () -> {
            done(m -> m.add(2, 0, 1), "5 -5 0", 5, -5, 9);
            done(m -> m.add(2, 0, 1), "-5 6 1", -5, 6, 9);
            done(m -> m.add(2, 0, 1), "5 -6 -1", 5, -6, 9);
            done(m -> m.add(2, 0, 1), FULL + " " + FULL.negate() + " 0", FULL, FULL.negate(), 9);
        });
        test("Promise 5: a + b where a LIMB ends", () -> {
            done(m -> m.add(2, 0, 1), "4294967295 1 4294967296", 4294967295L, 1, 9);
            done(m -> m.add(2, 0, 1), "4294967296 -1 4294967295", 4294967296L, -1, 9);
            done(m -> m.add(2, 0, 1), "-4294967296 1 -4294967295", -4294967296L, 1, 9);
        });
        test("Promise 5: 3", () -> {
            refuses((m, r) -> m.add(r, 0, 1), 5, 6, 7);
            refuses((m, r) -> m.add(0, r, 1), 5, 6, 7);
            refuses((m, r) -> m.add(0, 1, r), 5, 6, 7);
        });
        test("Promise 5: 1", () -> {
            done(m -> m.add(2, 0, 1), written(LESS, 1, FULL), LESS, 1, 9);
            answers(1, m -> m.add(2, 0, 1), FULL, 1, 9);
            done(m -> m.add(2, 0, 1), written(LESS.negate(), -1, FULL.negate()), LESS.negate(), -1, 9);
            answers(1, m -> m.add(2, 0, 1), FULL.negate(), -1, 9);
            answers(1, m -> m.add(2, 0, 1), FULL, FULL, 9);
        });
        test("Promise 6: a - b goes through 0", () -> {
            done(m -> m.subtract(2, 0, 1), "5 5 0", 5, 5, 9);
            done(m -> m.subtract(2, 0, 1), "5 6 -1", 5, 6, 9);
            done(m -> m.subtract(2, 0, 1), "-5 -6 1", -5, -6, 9);
            done(m -> m.subtract(2, 0, 1), "0 0 0", 0, 0, 9);
            done(m -> m.subtract(2, 0, 1), written(0, FULL, FULL.negate()), 0, FULL, 9);
            done(m -> m.subtract(2, 0, 1), written(0, FULL.negate(), FULL), 0, FULL.negate(), 9);
        });
        test("Promise 6: a - b where a LIMB ends", () -> {
            done(m -> m.subtract(2, 0, 1), "4294967296 1 4294967295", 4294967296L, 1, 9);
            done(m -> m.subtract(2, 0, 1), "4294967295 -1 4294967296", 4294967295L, -1, 9);
        });
        test("Promise 6: 3", () -> {
            refuses((m, r) -> m.subtract(r, 0, 1), 5, 6, 7);
            refuses((m, r) -> m.subtract(0, r, 1), 5, 6, 7);
            refuses((m, r) -> m.subtract(0, 1, r), 5, 6, 7);
        });
        test("Promise 6: 1", () -> {
            done(m -> m.subtract(2, 0, 1), written(LESS, -1, FULL), LESS, -1, 9);
            answers(1, m -> m.subtract(2, 0, 1), FULL, -1, 9);
            answers(1, m -> m.subtract(2, 0, 1), FULL.negate(), 1, 9);
            answers(1, m -> m.subtract(2, 0, 1), FULL, FULL.negate(), 9);
        });
    }

    private static void multiply() {
        test("Promise 7: by 0, without a sign", () -> {
            done(m -> m.multiply(2, 0, 1), "0 -5 0", 0, -5, 9);
            done(m -> m.multiply(2, 0, 1), FULL.negate() + " 0 0", FULL.negate(), 0, 9);
            done(m -> m.multiply(2, 0, 1), "0 0 0", 0, 0, 9);
        });
        test("Promise 7: signs", () -> {
            done(m -> m.multiply(2, 0, 1), written(FULL, -1, FULL.negate()), FULL, -1, 9);
            done(m -> m.multiply(2, 0, 1), written(FULL.negate(), -1, FULL), FULL.negate(), -1, 9);
        });
        test("Promise 7: 3", () -> {
            refuses((m, r) -> m.multiply(r, 0, 1), 5, 6, 7);
            refuses((m, r) -> m.multiply(0, r, 1), 5, 6, 7);
            refuses((m, r) -> m.multiply(0, 1, r), 5, 6, 7);
        });
        test("Promise 7: 1", () -> {
            done(m -> m.multiply(2, 0, 1), written(4294967295L, 4294967297L, FULL), 4294967295L, 4294967297L, 9);
            done(m -> m.multiply(2, 0, 1), written(two(32), two(31), two(63)), two(32), two(31), 9);
            answers(1, m -> m.multiply(2, 0, 1), two(32), two(32), 9);
            answers(1, m -> m.multiply(2, 0, 1), two(32).negate(), two(32), 9);
            answers(1, m -> m.multiply(2, 0, 1), two(63), 2, 9);
            answers(1, m -> m.multiply(2, 0, 1), FULL, FULL.negate(), 9);
        });
        test("Promise 7: the widest product", () -> {
            BigInteger half = two(640).subtract(ONE);
            GcdMill mill = wide(40, half, two(640), 0);
            due("square", mill.multiply(2, 0, 0) + " " + get(mill, 2), "0 " + half.multiply(half));
            due("no room", mill.multiply(2, 1, 1) + " " + get(mill, 2), "1 " + half.multiply(half));
        });
    }

    private static void divide() {
        test("Promise 8: 3 if a register is none", () -> {
            refuses((m, r) -> m.divide(r, 1, 0, 1), 5, 6, 7);
            refuses((m, r) -> m.divide(0, r, 0, 1), 5, 6, 7);
            refuses((m, r) -> m.divide(0, 1, r, 1), 5, 6, 7);
            refuses((m, r) -> m.divide(0, 1, 0, r), 5, 6, 7);
        });
        test("Promise 8: 3 also if q and m are one", () -> {
            for (int r = 0; r < 3; r++) {
                int both = r;
                answers(3, m -> m.divide(both, both, 0, 1), 5, 6, 7);
            }
            answers(3, m -> m.divide(0, 0, 0, 0), 5);
        });
        test("Promise 8: 2 (b is 0)", () -> {
            answers(2, m -> m.divide(0, 1, 0, 2), 5, 6, 0);
            answers(2, m -> m.divide(0, 1, 2, 2), 5, 6, 0);
            answers(2, m -> m.divide(2, 1, 0, 2), FULL, 6, 0);
        });
        test("Promise 8: 1 never comes up, for q and m have always room", () -> {
            GcdMill mill = wide(1, -4294967295L, 2, 0, 0);
            due("by 2", mill.divide(2, 3, 0, 1) + " " + get(mill, 2) + " " + get(mill, 3), "0 -2147483648 1");
            mill = wide(40, greatest(40).negate(), -1, 0, 0);
            due("by -1", mill.divide(2, 3, 0, 1) + " " + get(mill, 2) + " " + get(mill, 3), "0 " + greatest(40) + " 0");
        });
    }

    private static void shifted(int n, Object a, Object want) {
        done(m -> m.shift(1, 0, n), written(a, want), a, 9);
    }

    private static void shiftUp() {
        test("Promise 9: n is 0", () -> {
            shifted(0, FULL, FULL);
            shifted(0, FULL.negate(), FULL.negate());
            shifted(0, 0, 0);
        });
        test("Promise 9: a 2^n where a LIMB ends", () -> {
            shifted(31, 1, two(31));
            shifted(32, 1, two(32));
            shifted(33, -1, two(33).negate());
            shifted(32, 4294967295L, two(64).subtract(two(32)));
        });
        test("Promise 9: 0 has room with every n", () -> {
            for (int n : new int[] {1, 63, 64, 65, 1280, HIGH - 1, HIGH}) {
                shifted(n, 0, 0);
            }
        });
        test("Promise 9: 1", () -> {
            shifted(63, 1, two(63));
            answers(1, m -> m.shift(1, 0, 64), 1, 9);
            answers(1, m -> m.shift(1, 0, 1), FULL, 9);
            answers(1, m -> m.shift(1, 0, 1), two(63).negate(), 9);
            shifted(1, two(63).subtract(ONE), LESS);
            shifted(62, -3, two(62).multiply(number(-3)));
            answers(1, m -> m.shift(1, 0, 63), -3, 9);
        });
        test("Promise 9: 1 with an n at which counts of bits wrap around", () -> {
            for (int n : new int[] {HIGH, HIGH - 1, HIGH - 31, HIGH - 63, 1 << 30, 1 << 16, 4096, 128}) {
                answers(1, m -> m.shift(1, 0, n), 1, 9);
                answers(1, m -> m.shift(1, 0, n), FULL.negate(), 9);
            }
        });
        test("Promise 9: 3", () -> {
            refuses((m, r) -> m.shift(r, 0, 1), 5, 6, 7);
            refuses((m, r) -> m.shift(0, r, 1), 5, 6, 7);
            refuses((m, r) -> m.shift(r, 0, -1), 5, 6, 7);
            refuses((m, r) -> m.shift(0, r, LOW), 5, 6, 7);
        });
    }

    private static void shiftDown() {
        test("Promise 9: for n below 0 a DIV 2^-n", () -> {
            shifted(-1, 5, 2);
            shifted(-1, 4, 2);
            shifted(-3, 7, 0);
            shifted(-32, two(32), 1);
            shifted(-32, FULL, 4294967295L);
            shifted(-33, two(33).subtract(ONE), 0);
            shifted(-63, FULL, 1);
            shifted(-64, FULL, 0);
        });
        test("Promise 9: below 0 DIV goes down", () -> {
            shifted(-1, -5, -3);
            shifted(-1, -4, -2);
            shifted(-1, -1, -1);
            shifted(-3, -7, -1);
            shifted(-3, -8, -1);
            shifted(-3, -9, -2);
            shifted(-32, two(32).negate(), -1);
            shifted(-32, two(32).negate().subtract(ONE), -2);
            shifted(-32, FULL.negate(), two(32).negate());
            shifted(-63, two(63).negate(), -1);
            shifted(-63, FULL.negate(), -2);
            shifted(-64, FULL.negate(), -1);
            shifted(-64, two(63).negate(), -1);
        });
        test("Promise 9: -n wraps around", () -> {
            for (int n : new int[] {LOW, LOW + 1, LOW + 31, LOW + 32, -65, -1280, -1 << 30}) {
                shifted(n, FULL, 0);
                shifted(n, FULL.negate(), -1);
                shifted(n, -1, -1);
                shifted(n, two(63).negate(), -1);
                shifted(n, 0, 0);
            }
        });
    }

    private static void compare() {
        Object[] rising = {FULL.negate(), LESS.negate(), two(32).negate(), -4294967295L, -1, 0, 1, two(31).subtract(ONE), two(31),
            4294967295L, two(32), two(63), LESS, FULL};
        test("Promise 10: 0, 1, -1", () -> {
            for (int i = 0; i < rising.length; i++) {
                for (int j = 0; j < rising.length; j++) {
                    answers(Integer.compare(i, j), m -> m.compare(0, 1), rising[i], rising[j]);
                }
            }
        });
        test("Promise 10: a register with itself", () -> {
            for (Object one : rising) {
                answers(0, m -> m.compare(0, 0), one);
            }
        });
        test("Promise 10: 3", () -> {
            refuses((m, r) -> m.compare(r, 0), 5, 6, 7);
            refuses((m, r) -> m.compare(0, r), 5, 6, 7);
            refuses((m, r) -> m.compare(r, r), 5, 6, 7);
        });
    }

    private interface ThreeRegisters {
        int act(GcdMill mill, int d, int a, int b);
    }

    private static void divisors(String promise, ThreeRegisters way) {
        Object[][] cases = {{0, 0, 0}, {0, 5, 5}, {5, 0, 5}, {0, -5, 5}, {-5, 0, 5}, {FULL, 0, FULL}, {0, FULL.negate(), FULL}, {1, 1, 1},
            {1, FULL, 1}, {FULL, 1, 1}, {-1, FULL, 1}, {FULL, FULL, FULL}, {FULL.negate(), FULL, FULL}, {FULL.negate(), FULL.negate(), FULL},
            {FULL, LESS, 1}, {LESS, FULL, 1}, {two(63), two(63), two(63)}, {two(63), two(32), two(32)}, {two(31), two(63).negate(), two(31)},
            {two(63), FULL, 1}, {FULL, 4294967295L, 4294967295L}, {4294967297L, FULL.negate(), 4294967297L}, {-12, 18, 6}, {12, -18, 6}};
        test(promise + ": the DIVISOR of 0, of equals, of signs, of the greatest", () -> {
            for (Object[] one : cases) {
                GcdMill mill = busy(one[0], one[1], 9);
                due("of " + one[0] + ", " + one[1], way.act(mill, 2, 0, 1) + " " + numbers(mill), "0 " + written(one));
            }
        });
        test(promise + ": the widest", () -> {
            BigInteger odd = two(640).add(ONE);
            GcdMill mill = wide(40, odd.multiply(two(600)), odd.multiply(two(600).subtract(ONE)).negate(), 0);
            due("of 40 LIMBS", way.act(mill, 2, 0, 1) + " " + get(mill, 2), "0 " + odd);
            mill = wide(40, greatest(40), greatest(40).subtract(ONE), 0);
            due("of neighbours", way.act(mill, 2, 0, 1) + " " + get(mill, 2), "0 1");
            mill = wide(40, two(1279), two(1248).negate(), 0);
            due("of halves alone", way.act(mill, 2, 0, 1) + " " + get(mill, 2), "0 " + two(1248));
        });
        test(promise + ": 3", () -> {
            refuses((m, r) -> way.act(m, r, 0, 1), FULL, 6, 7);
            refuses((m, r) -> way.act(m, 0, r, 1), FULL, 6, 7);
            refuses((m, r) -> way.act(m, 0, 1, r), FULL, 6, 7);
        });
    }

    private static void gcdBinary() {
        divisors("Promise 11", (m, d, a, b) -> m.gcdBinary(d, a, b));
    }

    private static void gcdEuclid() {
        divisors("Promise 12", (m, d, a, b) -> m.gcdEuclid(d, a, b));
    }

    private static void gcdLehmer() {
        divisors("Promise 13", (m, d, a, b) -> m.gcdLehmer(d, a, b));
    }

    private static void lastSteps() {
        test("Promise 14: 0 ahead of any", () -> {
            GcdMill mill = wide(2, FULL, two(32), 0);
            due("at first", mill.lastSteps(), 0);
            mill.gcdBinary(2, 0, 1);
            mill.gcdEuclid(2, 0, 1);
            due("behind other ways", mill.lastSteps(), 0);
            due("refused", mill.gcdLehmer(3, 0, 1) + " " + mill.lastSteps(), "3 0");
        });
        test("Promise 14: the latest that was done", () -> {
            GcdMill mill = wide(2, FULL, two(32), 3, 0);
            mill.gcdLehmer(3, 0, 1);
            due("two STEPS", mill.lastSteps(), 2);
            mill.gcdLehmer(3, 0, 2);
            due("one STEP", mill.lastSteps(), 1);
            due("refused", mill.gcdLehmer(0, 1, 4) + " " + mill.lastSteps(), "3 1");
            due("refused", mill.gcdLehmer(-1, 2, 2) + " " + mill.lastSteps(), "3 1");
            mill.gcdLehmer(3, 2, 2);
            due("no STEP", mill.lastSteps(), 0);
        });
        test("Promise 14: no other act changes it", () -> {
            GcdMill mill = wide(2, FULL, two(32), 3, 0, 0);
            mill.gcdLehmer(3, 0, 1);
            mill.gcdEuclid(3, 0, 2);
            mill.gcdBinary(3, 0, 2);
            mill.bezout(2, 3, 4, 0, 1);
            mill.inverse(3, 0, 1);
            mill.divide(3, 4, 0, 1);
            mill.clear(3);
            due("two STEPS", mill.lastSteps() + " " + mill.lastSteps(), "2 2");
        });
    }

    private static void bezout() {
        test("Promise 15: 3 if a register is none", () -> {
            refuses((m, r) -> m.bezout(r, 1, 2, 0, 1), FULL, 6, 7);
            refuses((m, r) -> m.bezout(0, r, 2, 0, 1), FULL, 6, 7);
            refuses((m, r) -> m.bezout(0, 1, r, 0, 1), FULL, 6, 7);
            refuses((m, r) -> m.bezout(0, 1, 2, r, 1), FULL, 6, 7);
            refuses((m, r) -> m.bezout(0, 1, 2, 0, r), FULL, 6, 7);
        });
        test("Promise 15: 3 also if g and x are one", () -> answers(3, m -> m.bezout(1, 1, 2, 0, 1), FULL, 6, 7));
        test("Promise 15: 3 also if g and y are one", () -> answers(3, m -> m.bezout(1, 2, 1, 0, 1), FULL, 6, 7));
        test("Promise 15: 3 also if x and y are one", () -> answers(3, m -> m.bezout(2, 1, 1, 0, 1), FULL, 6, 7));
        test("Promise 15: 3 also if all are one", () -> answers(3, m -> m.bezout(0, 0, 0, 0, 0), 6));
        test("Promise 15: 1 never comes up, for FACTORS are no greater than the numbers, or 1", () -> {
            GcdMill mill = wide(1, 4294967295L, -4294967294L, 0, 0, 0);
            due("neighbours", mill.bezout(2, 3, 4, 0, 1) + " " + numbers(mill), "0 4294967295 -4294967294 1 1 1");
            mill = wide(1, 4294967295L, 2, 0, 0, 0);
            due("halves", mill.bezout(2, 3, 4, 1, 0) + " " + numbers(mill), "0 4294967295 2 1 -2147483647 1");
            mill = wide(40, greatest(40), greatest(40).negate(), 0, 0, 0);
            due("equal", mill.bezout(2, 3, 4, 0, 1) + " " + get(mill, 2) + " " + get(mill, 3) + " " + get(mill, 4), "0 " + greatest(40) + " 0 -1");
        });
        test("Promise 15: the widest FACTORS make the DIVISOR", () -> {
            BigInteger a = greatest(40);
            BigInteger b = two(1279).add(number(12345));
            GcdMill mill = wide(40, a, b, 0, 0, 0);
            due("bezout", mill.bezout(2, 3, 4, 0, 1), 0);
            BigInteger x = number(get(mill, 3));
            BigInteger y = number(get(mill, 4));
            due("x a + y b", x.multiply(a).add(y.multiply(b)), get(mill, 2));
            due("DIVISOR", get(mill, 2), a.gcd(b));
        });
    }

    private static void inverted(Object a, Object n, Object want) {
        done(m -> m.inverse(2, 0, 1), written(a, n, want), a, n, 9);
    }

    private static void inverse() {
        test("Promise 16: of n = 1: 0", () -> {
            inverted(0, 1, 0);
            inverted(1, 1, 0);
            inverted(-1, 1, 0);
            inverted(FULL, 1, 0);
        });
        test("Promise 16: from 0 on below n, of a below 0 or above n too", () -> {
            inverted(3, 7, 5);
            inverted(-3, 7, 2);
            inverted(10, 7, 5);
            inverted(-4, 7, 5);
            inverted(1, 2, 1);
            inverted(-1, 2, 1);
            inverted(1, FULL, 1);
            inverted(-1, FULL, LESS);
            inverted(LESS, FULL, LESS);
            inverted(FULL, 2, 1);
            inverted(two(32), FULL, two(32));
        });
        test("Promise 16: 2 (n is below 1)", () -> {
            answers(2, m -> m.inverse(2, 0, 1), 1, 0, 9);
            answers(2, m -> m.inverse(2, 0, 1), 0, 0, 9);
            answers(2, m -> m.inverse(2, 0, 1), 1, -1, 9);
            answers(2, m -> m.inverse(2, 0, 1), 3, -7, 9);
            answers(2, m -> m.inverse(2, 0, 1), 3, FULL.negate(), 9);
        });
        test("Promise 16: 2 (there is none)", () -> {
            answers(2, m -> m.inverse(2, 0, 1), 0, 2, 9);
            answers(2, m -> m.inverse(2, 0, 1), 0, FULL, 9);
            answers(2, m -> m.inverse(2, 0, 1), 7, 7, 9);
            answers(2, m -> m.inverse(2, 0, 1), -14, 7, 9);
            answers(2, m -> m.inverse(2, 0, 1), 6, 9, 9);
            answers(2, m -> m.inverse(2, 0, 1), 3, FULL, 9);
        });
        test("Promise 16: 3", () -> {
            refuses((m, r) -> m.inverse(r, 0, 1), 3, 7, 9);
            refuses((m, r) -> m.inverse(0, r, 1), 3, 7, 9);
            refuses((m, r) -> m.inverse(0, 1, r), 3, 7, 9);
        });
    }

    private static void raised(Object a, Object e, Object n, Object want) {
        done(m -> m.power(3, 0, 1, 2), written(a, e, n, want), a, e, n, 9);
    }

    private static void power() {
        test("Promise 17: 0^0 is 1", () -> {
            raised(0, 0, 2, 1);
            raised(0, 0, FULL, 1);
        });
        test("Promise 17: MOD 1 is 0, of 0^0 too", () -> {
            raised(0, 0, 1, 0);
            raised(5, 0, 1, 0);
            raised(5, 3, 1, 0);
            raised(-5, 3, 1, 0);
        });
        test("Promise 17: e is 0 or 1", () -> {
            raised(5, 0, 7, 1);
            raised(-5, 0, 7, 1);
            raised(7, 0, 7, 1);
            raised(5, 1, 7, 5);
            raised(-5, 1, 7, 2);
            raised(12, 1, 7, 5);
            raised(0, 1, 7, 0);
            raised(0, FULL, 7, 0);
        });
        test("Promise 17: of a below 0 the answer is from 0 on below n", () -> {
            raised(-2, 3, 5, 2);
            raised(-2, 2, 5, 4);
            raised(-1, FULL, FULL, LESS);
            raised(-1, LESS, FULL, 1);
            raised(LESS, FULL, FULL, LESS);
        });
        test("Promise 17: 2 (e is below 0)", () -> {
            answers(2, m -> m.power(3, 0, 1, 2), 3, -1, 7, 9);
            answers(2, m -> m.power(3, 0, 1, 2), 1, -1, 1, 9);
            answers(2, m -> m.power(3, 0, 1, 2), 3, FULL.negate(), 7, 9);
        });
        test("Promise 17: 2 (n is below 1)", () -> {
            answers(2, m -> m.power(3, 0, 1, 2), 3, 1, 0, 9);
            answers(2, m -> m.power(3, 0, 1, 2), 0, 0, 0, 9);
            answers(2, m -> m.power(3, 0, 1, 2), 3, 1, -1, 9);
            answers(2, m -> m.power(3, 0, 1, 2), 3, 0, FULL.negate(), 9);
        });
        test("Promise 17: 3", () -> {
            refuses((m, r) -> m.power(r, 0, 1, 2), 3, 6, 7);
            refuses((m, r) -> m.power(0, r, 1, 2), 3, 6, 7);
            refuses((m, r) -> m.power(0, 0, r, 2), 3, 6, 7);
            refuses((m, r) -> m.power(0, 0, 1, r), 3, 6, 7);
        });
        test("Promise 17: the widest", () -> {
            BigInteger n = greatest(40);
            GcdMill mill = wide(40, n.subtract(ONE), n.subtract(ONE), n, 0);
            due("an even power of -1", mill.power(3, 0, 1, 2) + " " + get(mill, 3), "0 1");
            due("an odd power of -1", mill.power(3, 0, 2, 2) + " " + get(mill, 3), "0 " + n.subtract(ONE));
            set(mill, 0, 3);
            due("of 3", mill.power(3, 0, 2, 2) + " " + get(mill, 3), "0 " + number(3).modPow(n, n));
        });
    }

    private static void isqrt() {
        test("Promise 18: a square, one less, one more", () -> {
            BigInteger[] sides = {ONE, number(2), number(3), number(255), number(256), number(65535), number(65536), two(31), two(32).subtract(ONE)};
            for (BigInteger side : sides) {
                BigInteger square = side.multiply(side);
                done(m -> m.isqrt(1, 0), written(square, side), square, 9);
                done(m -> m.isqrt(1, 0), written(square.subtract(ONE), side.subtract(ONE)), square.subtract(ONE), 9);
                done(m -> m.isqrt(1, 0), written(square.add(ONE), side), square.add(ONE), 9);
            }
        });
        test("Promise 18: of 0 and of the greatest", () -> {
            done(m -> m.isqrt(1, 0), "0 0", 0, 9);
            done(m -> m.isqrt(1, 0), FULL + " 4294967295", FULL, 9);
            GcdMill mill = wide(40, greatest(40), 0);
            due("the widest", mill.isqrt(1, 0) + " " + get(mill, 1), "0 " + two(640).subtract(ONE));
            mill = wide(39, greatest(39), 0);
            due("the widest but one", mill.isqrt(1, 0) + " " + get(mill, 1), "0 " + two(624).subtract(ONE));
            mill = wide(1, 4294967295L, 0);
            due("of width 1", mill.isqrt(1, 0) + " " + get(mill, 1), "0 65535");
        });
        test("Promise 18: 2 (a is below 0)", () -> {
            answers(2, m -> m.isqrt(1, 0), -1, 9);
            answers(2, m -> m.isqrt(0, 0), -4, 9);
            answers(2, m -> m.isqrt(1, 0), FULL.negate(), 9);
        });
        test("Promise 18: 3", () -> {
            refuses((m, r) -> m.isqrt(r, 0), 9, 6, 7);
            refuses((m, r) -> m.isqrt(0, r), 9, 6, 7);
        });
    }

    private static void rooted(int k, Object a, Object want) {
        done(m -> m.root(1, 0, k), written(a, want), a, 9);
    }

    private static void root() {
        test("Promise 19: a k-th power, one less, one more", () -> {
            for (int k = 2; k < 64; k++) {
                for (BigInteger side = number(2); side.pow(k).bitLength() <= 64; side = side.multiply(number(3)).add(ONE)) {
                    BigInteger power = side.pow(k);
                    rooted(k, power, side);
                    rooted(k, power.subtract(ONE), side.subtract(ONE));
                    rooted(k, power.add(ONE), side);
                }
            }
        });
        test("Promise 19: k is 1", () -> {
            rooted(1, 0, 0);
            rooted(1, 1, 1);
            rooted(1, FULL, FULL);
        });
        test("Promise 19: of 0 and 1 with every k", () -> {
            for (int k : new int[] {1, 2, 3, 31, 32, 33, 64, 1 << 30, HIGH - 1, HIGH}) {
                rooted(k, 0, 0);
                rooted(k, 1, 1);
            }
        });
        test("Promise 19: k as great as the bits, and greater", () -> {
            rooted(63, two(63), 2);
            rooted(63, two(63).subtract(ONE), 1);
            rooted(63, FULL, 2);
            rooted(64, FULL, 1);
            rooted(65, FULL, 1);
            rooted(1 << 16, FULL, 1);
            rooted(1 << 30, FULL, 1);
            rooted(HIGH, FULL, 1);
            rooted(HIGH - 1, 2, 1);
        });
        test("Promise 19: the widest", () -> {
            for (int k = 1; k <= 1281; k += k < 45 ? 1 : 103) {
                GcdMill mill = wide(40, greatest(40), 0);
                due("root " + k, mill.root(1, 0, k), 0);
                BigInteger found = number(get(mill, 1));
                due("root " + k + " is not above", found.pow(k).compareTo(greatest(40)) <= 0, true);
                due("root " + k + " is the greatest", found.add(ONE).pow(k).compareTo(greatest(40)) > 0, true);
            }
        });
        test("Promise 19: 2 (a is below 0)", () -> {
            answers(2, m -> m.root(1, 0, 1), -1, 9);
            answers(2, m -> m.root(1, 0, 3), -8, 9);
            answers(2, m -> m.root(0, 0, HIGH), FULL.negate(), 9);
        });
        test("Promise 19: 2 (k below 1)", () -> {
            answers(2, m -> m.root(1, 0, 0), 8, 9);
            answers(2, m -> m.root(1, 0, -1), 8, 9);
            answers(2, m -> m.root(1, 0, -2), 0, 9);
            answers(2, m -> m.root(1, 0, LOW), FULL, 9);
        });
        test("Promise 19: 3", () -> {
            refuses((m, r) -> m.root(r, 0, 2), 9, 6, 7);
            refuses((m, r) -> m.root(0, r, 2), 9, 6, 7);
        });
        test("Promise 19: k is no register", () -> rooted(17, two(51), 8));
    }

    private static void isSquare() {
        test("Promise 20: 0 and 1 are squares", () -> {
            answers(1, m -> m.isSquare(0), 0);
            answers(1, m -> m.isSquare(0), 1);
        });
        test("Promise 20: a square, one less, one more", () -> {
            BigInteger[] sides = {number(2), number(3), number(65535), number(65536), two(31), two(32).subtract(ONE)};
            for (BigInteger side : sides) {
                BigInteger square = side.multiply(side);
                answers(1, m -> m.isSquare(0), square);
                answers(0, m -> m.isSquare(0), square.subtract(ONE));
                answers(0, m -> m.isSquare(0), square.add(ONE));
            }
        });
        test("Promise 20: no number below 0 is a square", () -> {
            answers(0, m -> m.isSquare(0), -1);
            answers(0, m -> m.isSquare(0), -4);
            answers(0, m -> m.isSquare(0), FULL.negate());
        });
        test("Promise 20: the widest", () -> {
            BigInteger side = two(640).subtract(ONE);
            GcdMill mill = wide(40, side.multiply(side), greatest(40), two(1278));
            due("isSquare", mill.isSquare(0) + " " + mill.isSquare(1) + " " + mill.isSquare(2), "1 0 1");
        });
        test("Promise 20: 3", () -> refuses((m, r) -> m.isSquare(r), 9, 6, 7));
    }

    private static void symbol(Object a, Object n, int want) {
        answers(want, m -> m.jacobi(0, 1), a, n);
    }

    private static void jacobi() {
        test("Promise 21: over 1 it is 1", () -> {
            for (Object a : new Object[] {0, 1, -1, 2, FULL, FULL.negate()}) {
                symbol(a, 1, 1);
            }
        });
        test("Promise 21: 0 where a and n have a DIVISOR above 1", () -> {
            symbol(0, 3, 0);
            symbol(0, FULL, 0);
            symbol(3, 3, 0);
            symbol(-9, 15, 0);
            symbol(FULL, FULL, 0);
            symbol(3, FULL, 0);
        });
        test("Promise 21: of -1 over 1, 3, 5, 7 MOD 8", () -> {
            symbol(-1, 17, 1);
            symbol(-1, 3, -1);
            symbol(-1, 5, 1);
            symbol(-1, 7, -1);
        });
        test("Promise 21: of 2 over 1, 3, 5, 7 MOD 8", () -> {
            symbol(2, 17, 1);
            symbol(2, 3, -1);
            symbol(2, 5, -1);
            symbol(2, 7, 1);
            symbol(4, 3, 1);
            symbol(8, 3, -1);
        });
        test("Promise 21: a and n one register", () -> {
            answers(1, m -> m.jacobi(0, 0), 1);
            answers(0, m -> m.jacobi(0, 0), 7);
            answers(2, m -> m.jacobi(0, 0), 8);
        });
        test("Promise 21: 2 (n is even)", () -> {
            symbol(3, 2, 2);
            symbol(3, 4, 2);
            symbol(1, two(32), 2);
            symbol(1, LESS, 2);
        });
        test("Promise 21: 2 (n is below 1)", () -> {
            symbol(3, 0, 2);
            symbol(3, -1, 2);
            symbol(3, -7, 2);
            symbol(1, FULL.negate(), 2);
        });
        test("Promise 21: 3", () -> {
            refuses((m, r) -> m.jacobi(r, 0), 9, 6, 7);
            refuses((m, r) -> m.jacobi(0, r), 9, 6, 7);
            refuses((m, r) -> m.jacobi(r, 1), 9, 6, 7);
        });
        test("Promise 21: the widest", () -> {
            BigInteger square = two(639).add(ONE).pow(2);
            GcdMill mill = wide(40, square, greatest(40), 2);
            due("a square over an odd number", mill.jacobi(0, 1), square.gcd(greatest(40)).equals(ONE) ? 1 : 0);
            due("2 over 7 MOD 8", mill.jacobi(2, 1), 1);
        });
    }

    /** -9 stands for an exception of the face, which is thrown and changes nothing. */
    private static int orThrown(OneRegister look, GcdMill mill, int r) {
        try {
            return look.act(mill, r);
        } catch (NoSuchElementException e) {
            return e.getClass() == NoSuchElementException.class ? -9 : -8;
        }
    }

    private static void throwsOfNone(OneRegister look) {
        for (int r : new int[] {-1, 3, 4, 16, LOW, HIGH}) {
            answers(-9, m -> orThrown(look, m, r), 5, -6, 7);
        }
    }

    private static void signAndLength() {
        test("Promise 22: -1, 0, 1", () -> {
            answers(0, m -> m.sign(0), 0);
            answers(1, m -> m.sign(0), 1);
            answers(-1, m -> m.sign(0), -1);
            answers(1, m -> m.sign(0), two(31));
            answers(1, m -> m.sign(0), FULL);
            answers(-1, m -> m.sign(0), two(63).negate());
            answers(1, m -> m.sign(1), -5, two(32), -5);
        });
        test("Promise 22: NoSuchElementException", () -> throwsOfNone((m, r) -> m.sign(r)));
        test("Promise 23: where a LIMB ends", () -> {
            answers(0, m -> m.length(0), 0);
            answers(1, m -> m.length(0), 1);
            answers(1, m -> m.length(0), -4294967295L);
            answers(2, m -> m.length(0), 4294967296L);
            answers(2, m -> m.length(0), FULL.negate());
        });
        test("Promise 23: of the widest", () -> due("length", wide(40, greatest(40)).length(0) + " " + wide(40, two(1248)).length(0), "40 40"));
        test("Promise 23: NoSuchElementException", () -> throwsOfNone((m, r) -> m.length(r)));
    }

    private static void limbAt() {
        test("Promise 24: its 32 bits", () -> {
            answers(-1, m -> m.limbAt(0, 0), FULL);
            answers(-1, m -> m.limbAt(0, 1), FULL.negate());
            answers(LOW, m -> m.limbAt(0, 1), two(63));
            answers(0, m -> m.limbAt(0, 0), two(63));
        });
        test("Promise 24: 0 where there is none", () -> {
            for (int i : new int[] {2, 3, 40, -1, -2, LOW, HIGH, 1 << 27, 1 << 30}) {
                answers(0, m -> m.limbAt(0, i), FULL);
            }
            for (int i : new int[] {0, 1, 2, -1}) {
                answers(0, m -> m.limbAt(0, i), 0);
            }
            answers(0, m -> m.limbAt(0, 1), -7);
        });
        test("Promise 24: a LIMB that was there is there no more", () -> {
            GcdMill mill = wide(3, greatest(3));
            mill.shift(0, 0, -64);
            due("limbs", mill.limbAt(0, 0) + " " + mill.limbAt(0, 1) + " " + mill.limbAt(0, 2), "-1 0 0");
            mill.clear(0);
            due("limbs", mill.limbAt(0, 0) + " " + mill.limbAt(0, 1), "0 0");
        });
        test("Promise 24: NoSuchElementException, whatever i", () -> {
            throwsOfNone((m, r) -> m.limbAt(r, 0));
            throwsOfNone((m, r) -> m.limbAt(r, -1));
            throwsOfNone((m, r) -> m.limbAt(r, 2));
        });
    }

    private static final int ZEROS = 0x30303030;

    private static void feed() {
        test("Promise 25: of each number the highest byte first", () -> {
            GcdMill mill = new GcdMill(1, 40);
            due("feed", mill.feed(0x31323334, 0x35363738, 0x39303132, 0x33343536, 0x37383939), 20);
            due("read", mill.read(0) + " " + get(mill, 0), "0 12345678901234567899");
        });
        test("Promise 25: they come behind the tape", () -> {
            GcdMill mill = new GcdMill(1, 40);
            tape(mill, "-7");
            due("feed", mill.feed(ZEROS, ZEROS, ZEROS, ZEROS, 0x30303031), 22);
            due("read", mill.read(0) + " " + get(mill, 0), "0 -700000000000000000001");
        });
        test("Promise 25: 1000 bytes have room", () -> {
            GcdMill mill = new GcdMill(1, 1);
            for (int i = 1; i <= 50; i++) {
                due("feed", mill.feed(ZEROS, ZEROS, ZEROS, ZEROS, 0x30303030 + i % 10), 20 * i);
            }
        });
        test("Promise 25: NONE, and none come, if it would have more than 1000", () -> {
            for (int held = 981; held <= 1000; held++) {
                GcdMill mill = new GcdMill(1, 1);
                tape(mill, "0".repeat(held - 1) + "8");
                due("feed behind " + held, mill.feed(ZEROS, ZEROS, ZEROS, ZEROS, ZEROS) + " " + mill.count(2), "-1 " + held);
                due("the tape", mill.read(0) + " " + get(mill, 0), "0 8");
            }
        });
        test("Promise 25: 980 bytes leave room for twenty", () -> {
            GcdMill mill = new GcdMill(1, 1);
            tape(mill, "0".repeat(980));
            due("feed", mill.feed(ZEROS, ZEROS, ZEROS, ZEROS, 0x30303036), 1000);
            due("the tape", mill.read(0) + " " + get(mill, 0), "0 6");
        });
        test("Promise 25: bytes of every kind come", () -> {
            GcdMill mill = new GcdMill(1, 1);
            due("feed", mill.feed(0, -1, LOW, HIGH, 0x31000000) + " " + mill.count(2), "20 20");
            due("they are no decimals", mill.read(0), 2);
        });
        test("Promise 25: a tape that was full has room behind read and end", () -> {
            GcdMill mill = new GcdMill(1, 1);
            tape(mill, "0".repeat(1000));
            mill.end(980);
            due("behind end", mill.feed(ZEROS, ZEROS, ZEROS, ZEROS, ZEROS), 1000);
            mill.read(0);
            due("behind read", mill.feed(ZEROS, ZEROS, ZEROS, ZEROS, ZEROS), 20);
        });
    }

    private static void end() {
        test("Promise 26: of an empty tape", () -> {
            GcdMill mill = new GcdMill(1, 1);
            due("end", mill.end(0) + " " + mill.end(1) + " " + mill.end(-1) + " " + mill.count(2), "true false false 0");
        });
        test("Promise 26: all its bytes, and none", () -> {
            GcdMill mill = new GcdMill(1, 1);
            tape(mill, "123");
            due("all", mill.end(3) + " " + mill.count(2), "true 3");
            due("none", mill.end(0) + " " + mill.count(2) + " " + mill.read(0), "true 0 2");
        });
        test("Promise 26: the first n bytes alone", () -> {
            GcdMill mill = new GcdMill(1, 1);
            tape(mill, "12345");
            due("end", mill.end(2) + " " + mill.read(0) + " " + get(mill, 0), "true 0 12");
        });
        test("Promise 26: false, if it has not so many", () -> {
            GcdMill mill = new GcdMill(1, 1);
            tape(mill, "123");
            due("end", mill.end(4) + " " + mill.end(20) + " " + mill.end(1001) + " " + mill.end(HIGH), "false false false false");
            due("the tape", mill.count(2) + " " + mill.read(0) + " " + get(mill, 0), "3 0 123");
        });
        test("Promise 26: false, if n is below 0", () -> {
            GcdMill mill = new GcdMill(1, 1);
            tape(mill, "123");
            due("end", mill.end(-1) + " " + mill.end(-3) + " " + mill.end(LOW), "false false false");
            due("the tape", mill.count(2) + " " + mill.read(0) + " " + get(mill, 0), "3 0 123");
        });
        test("Promise 26: bytes that were cut off do not come back", () -> {
            GcdMill mill = new GcdMill(1, 1);
            tape(mill, "123");
            mill.end(1);
            due("end", mill.end(2) + " " + mill.end(3) + " " + mill.count(2), "false false 1");
        });
        test("Promise 26: of a full tape", () -> {
            GcdMill mill = new GcdMill(1, 1);
            tape(mill, "0".repeat(1000));
            due("end", mill.end(1001) + " " + mill.end(1000) + " " + mill.end(999) + " " + mill.count(2), "false true true 999");
        });
        test("Promise 26: behind read there are none", () -> {
            GcdMill mill = new GcdMill(1, 1);
            tape(mill, "123");
            mill.read(0);
            due("end", mill.end(1) + " " + mill.end(0), "false true");
        });
    }

    /** The answer, register 0 (which had -42) and the bytes of the tape then. */
    private static String readOf(int width, String text) {
        GcdMill mill = wide(width, -42);
        tape(mill, text);
        return mill.read(0) + " " + get(mill, 0) + " " + mill.count(2);
    }

    private static void read() {
        test("Promise 27: perhaps -, then digits, one at least", () -> {
            for (String text : new String[] {"0", "7", "-7", "10", "-10", "9", "-9", "123456789", "1234567890", "999999999", "1000000000"}) {
                due("read of " + text, readOf(2, text), "0 " + text + " 0");
            }
        });
        test("Promise 27: 0s ahead of others may be read", () -> {
            due("007", readOf(1, "007"), "0 7 0");
            due("-007", readOf(1, "-007"), "0 -7 0");
            due("000", readOf(1, "000"), "0 0 0");
            due("0000000001", readOf(1, "0000000001"), "0 1 0");
            due("999 of them", readOf(1, "0".repeat(999) + "5"), "0 5 0");
        });
        test("Promise 27: -0 is 0", () -> {
            GcdMill mill = wide(1, -42, 0);
            tape(mill, "-0");
            due("read", mill.read(0) + " " + mill.sign(0) + " " + mill.compare(0, 1), "0 0 0");
        });
        test("Promise 27: 2 of an empty tape", () -> {
            due("empty", readOf(1, ""), "2 -42 0");
            GcdMill mill = wide(1, -42);
            tape(mill, "5");
            due("and again", mill.read(0) + " " + mill.read(0) + " " + get(mill, 0), "0 2 5");
        });
        test("Promise 27: 2 of - alone", () -> due("-", readOf(1, "-"), "2 -42 0"));
        test("Promise 27: 2 of - where it does not stand first", () -> {
            due("--1", readOf(1, "--1"), "2 -42 0");
            due("1-", readOf(1, "1-"), "2 -42 0");
            due("1-1", readOf(1, "1-1"), "2 -42 0");
        });
        test("Promise 27: 2 of bytes that are no digits", () -> {
            for (int c = 0; c < 256; c++) {
                if (c < '0' || c > '9') {
                    due("byte " + c + " behind 1", readOf(1, "1" + (char) c), "2 -42 0");
                    due("byte " + c + " between", readOf(1, "1" + (char) c + "1"), "2 -42 0");
                    due("byte " + c + " alone", readOf(1, "" + (char) c), "2 -42 0");
                }
                if ((c < '0' || c > '9') && c != '-') {
                    due("byte " + c + " ahead", readOf(1, (char) c + "1"), "2 -42 0");
                    due("byte " + c + " behind -", readOf(1, "-" + (char) c), "2 -42 0");
                }
            }
        });
        test("Promise 27: 1, and register r stays", () -> {
            for (int width : WIDTHS) {
                String most = greatest(width).toString();
                String over = two(32 * width).toString();
                due("the greatest", readOf(width, most), "0 " + most + " 0");
                due("the least", readOf(width, "-" + most), "0 -" + most + " 0");
                due("one more", readOf(width, over), "1 -42 0");
                due("one less", readOf(width, "-" + over), "1 -42 0");
                due("ten times as many", readOf(width, most + "0"), "1 -42 0");
                due("0s ahead of one more", readOf(width, "00000" + over), "1 -42 0");
                due("far more", readOf(width, "9".repeat(1000)), "1 -42 0");
                due("far less", readOf(width, "-" + "9".repeat(999)), "1 -42 0");
            }
        });
        test("Promise 27: the tape stays with 3", () -> {
            for (int r : new int[] {-1, 1, 16, LOW, HIGH}) {
                GcdMill mill = wide(1, -42);
                tape(mill, "17");
                due("read(" + r + ")", mill.read(r) + " " + get(mill, 0) + " " + mill.count(2), "3 -42 2");
                due("then", mill.read(0) + " " + get(mill, 0), "0 17");
            }
        });
        test("Promise 27: what OUT has stays", () -> {
            GcdMill mill = wide(1, -42);
            mill.write(0);
            tape(mill, "17");
            mill.read(0);
            due("OUT", out(mill), "-42");
        });
    }

    private static void write() {
        test("Promise 28: how many bytes", () -> {
            for (String text : new String[] {"0", "9", "-9", "10", "-10", "99", "100", FULL.toString(), FULL.negate().toString()}) {
                GcdMill mill = wide(2, text);
                due("write of " + text, mill.write(0) + " " + out(mill) + " " + get(mill, 0), text.length() + " " + text + " " + text);
            }
        });
        test("Promise 28: each power of 10 and one less", () -> {
            GcdMill mill = new GcdMill(1, 2);
            for (int n = 0; n <= 19; n++) {
                String text = "1" + "0".repeat(n);
                set(mill, 0, text);
                due("write", mill.write(0) + " " + out(mill), n + 1 + " " + text);
                mill = wide(2, "9".repeat(n == 0 ? 1 : n));
                due("write", mill.write(0) + " " + out(mill), Math.max(n, 1) + " " + "9".repeat(n == 0 ? 1 : n));
            }
        });
        test("Promise 28: 0s inside are written", () -> {
            for (String text : new String[] {"1000000001", "-1000000000000000001", "1000000001000000000", "5000000000000000000"}) {
                GcdMill mill = wide(2, text);
                due("write", mill.write(0) + " " + out(mill), text.length() + " " + text);
            }
        });
        test("Promise 28: the greatest and the least of every width", () -> {
            for (int width = 1; width <= 40; width++) {
                String text = greatest(width).toString();
                GcdMill mill = wide(width, text);
                due("write", mill.write(0), text.length());
                due("OUT", out(mill), text);
                mill = wide(width, "-" + text);
                due("write", mill.write(0), text.length() + 1);
                due("OUT", out(mill), "-" + text);
            }
        });
        test("Promise 28: OUT has what was written last alone", () -> {
            GcdMill mill = wide(2, FULL, 7);
            mill.write(0);
            due("less", mill.write(1) + " " + out(mill) + " " + mill.count(3), "1 7 1");
        });
        test("Promise 28: NoSuchElementException, and OUT stays", () -> throwsOfNone((m, r) -> m.write(r)));
        test("Promise 28: what is written can be read", () -> {
            GcdMill mill = wide(40, greatest(40).negate(), 0);
            mill.write(0);
            tape(mill, out(mill));
            due("read", mill.read(1) + " " + mill.compare(0, 1), "0 0");
        });
    }

    private static void octet() {
        test("Promise 29: NONE of an empty OUT", () -> {
            GcdMill mill = wide(1, 5);
            for (int k : new int[] {0, 1, -1, LOW, HIGH}) {
                due("octet(" + k + ")", mill.octet(k), -1);
            }
        });
        test("Promise 29: the first byte and the last", () -> {
            GcdMill mill = wide(2, -1234567890);
            mill.write(0);
            due("octets", mill.octet(0) + " " + mill.octet(1) + " " + mill.octet(10), "45 49 48");
        });
        test("Promise 29: NONE if there is none such", () -> {
            GcdMill mill = wide(2, -1234567890);
            mill.write(0);
            for (int k : new int[] {11, 12, 999, -1, -2, LOW, HIGH}) {
                due("octet(" + k + ")", mill.octet(k), -1);
            }
        });
        test("Promise 29: a byte that was there is there no more", () -> {
            GcdMill mill = wide(2, FULL, 0);
            mill.write(0);
            mill.write(1);
            due("octets", mill.octet(0) + " " + mill.octet(1) + " " + mill.octet(19), "48 -1 -1");
        });
    }

    private static void count() {
        test("Promise 30: 0, 1, 2, 3 at first", () -> {
            GcdMill mill = new GcdMill(3, 5);
            due("counts", mill.count(0) + " " + mill.count(1) + " " + mill.count(2) + " " + mill.count(3), "3 5 0 0");
        });
        test("Promise 30: bytes of the tape and of OUT apart", () -> {
            GcdMill mill = wide(5, -12, 0, 0);
            tape(mill, "1234567");
            mill.write(0);
            due("counts", mill.count(0) + " " + mill.count(1) + " " + mill.count(2) + " " + mill.count(3), "3 5 7 3");
            mill.read(1);
            due("behind read", mill.count(2) + " " + mill.count(3), "0 3");
        });
        test("Promise 30: NONE for another what", () -> {
            for (int what : new int[] {-1, 4, 5, -2, 16, 256, LOW, HIGH}) {
                answers(-1, m -> m.count(what), 5, 6, 7);
            }
        });
    }
}
