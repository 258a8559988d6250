import java.math.BigInteger;
import java.util.Arrays;
import java.util.NoSuchElementException;
import java.util.Random;

/**
 * Every act with every choice of registers (none, one and the same, apart) on numbers that stand at
 * an edge, its answer and all registers held against a model of the document on BigInteger; and
 * every call with numbers of every kind, of which none may throw by itself.
 */
public final class GcdMillGrid {
    private static final BigInteger ZERO = BigInteger.ZERO;
    private static final BigInteger ONE = BigInteger.ONE;
    private static final int REGISTERS = 3;
    private static final int LOW = Integer.MIN_VALUE;
    private static final int HIGH = Integer.MAX_VALUE;

    /** An act of so many registers, with one number more behind them if it takes one. */
    private enum Act {
        PUSH_LIMB(1, true), CLEAR(1, false), NEGATE(2, false), ADD(3, false), SUBTRACT(3, false), MULTIPLY(3, false), DIVIDE(4, false),
        SHIFT(2, true), COMPARE(2, false), GCD_BINARY(3, false), GCD_EUCLID(3, false), GCD_LEHMER(3, false), BEZOUT(5, false),
        INVERSE(3, false), POWER(4, false), ISQRT(2, false), ROOT(2, true), IS_SQUARE(1, false), JACOBI(2, false);

        final int registers;
        final boolean more;

        Act(int registers, boolean more) {
            this.registers = registers;
            this.more = more;
        }
    }

    private static int wrong = 0;
    private static int acts = 0;

    public static void main(String[] args) {
        for (int width : new int[] {1, 2}) {
            BigInteger[] edges = edges(width);
            for (Act act : Act.values()) {
                choicesOfRegisters(act, width, edges);
            }
        }
        for (int width : new int[] {1, 2, 3, 40}) {
            pairsOfEdges(width);
        }
        for (int seed = 0; seed < 1500; seed++) {
            anyArguments(seed);
        }
        System.out.println(acts + " acts, " + wrong + " that are not as due");
        if (wrong != 0) {
            System.exit(1);
        }
    }

    private static BigInteger two(int n) {
        return ONE.shiftLeft(n);
    }

    private static BigInteger number(long value) {
        return BigInteger.valueOf(value);
    }

    private static BigInteger[] edges(int width) {
        BigInteger top = two(32 * width);
        BigInteger[] above = {ONE, number(2), number(3), number(12), two(31), two(32).subtract(ONE), top.subtract(ONE), top.subtract(number(2)),
            top.shiftRight(1), top.shiftRight(1).subtract(ONE), two(16 * width).subtract(ONE), two(16 * width).subtract(ONE).pow(2)};
        BigInteger[] all = new BigInteger[2 * above.length + 1];
        all[0] = ZERO;
        for (int i = 0; i < above.length; i++) {
            all[2 * i + 1] = above[i];
            all[2 * i + 2] = above[i].negate();
        }
        return all;
    }

    private static int[] moreOf(Act act, int width) {
        if (act == Act.PUSH_LIMB) {
            return new int[] {0, 1, -1, LOW};
        }
        if (act == Act.SHIFT) {
            return new int[] {0, 1, -1, 31, 32, -31, -32, 32 * width - 1, 32 * width, -32 * width, 1 - 32 * width, LOW, HIGH};
        }
        if (act == Act.ROOT) {
            return new int[] {0, 1, 2, 3, -1, 31, 32, 32 * width - 1, 32 * width, LOW, HIGH};
        }
        return new int[] {0};
    }

    /** Registers from -1 (none) to REGISTERS (none) in each place of the act. */
    private static void choicesOfRegisters(Act act, int width, BigInteger[] edges) {
        Random random = new Random(width);
        int choices = REGISTERS + 2;
        int count = (int) Math.pow(choices, act.registers);
        for (int choice = 0; choice < count; choice++) {
            int[] chosen = new int[act.registers];
            for (int i = 0, left = choice; i < chosen.length; i++, left /= choices) {
                chosen[i] = left % choices - 1;
            }
            int turns = act.registers > 3 ? 12 : 60;
            for (int turn = 0; turn < turns; turn++) {
                BigInteger[] numbers = new BigInteger[REGISTERS];
                for (int r = 0; r < REGISTERS; r++) {
                    numbers[r] = edges[random.nextInt(edges.length)];
                }
                for (int more : moreOf(act, width)) {
                    check(act, width, numbers, chosen, more);
                }
            }
        }
    }

    /** Each two edges as the numbers that are read. */
    private static void pairsOfEdges(int width) {
        BigInteger[] edges = edges(width);
        for (Act act : Act.values()) {
            for (int i = 0; i < edges.length * edges.length; i++) {
                BigInteger[] numbers = {edges[i / edges.length], edges[i % edges.length], number(i % 7 - 2)};
                for (int more : moreOf(act, width)) {
                    check(act, width, numbers, apart(act), more);
                }
            }
        }
    }

    private static int[] apart(Act act) {
        switch (act) {
            case PUSH_LIMB: case CLEAR: case IS_SQUARE: return new int[] {0};
            case NEGATE: case SHIFT: case ISQRT: case ROOT: return new int[] {2, 0};
            case COMPARE: case JACOBI: return new int[] {0, 1};
            case DIVIDE: return new int[] {2, 1, 0, 1};
            case BEZOUT: return new int[] {2, 1, 0, 0, 1};
            case POWER: return new int[] {2, 2, 0, 1};
            default: return new int[] {2, 0, 1};
        }
    }

    private static void check(Act act, int width, BigInteger[] before, int[] chosen, int more) {
        GcdMill mill = new GcdMill(REGISTERS, width);
        for (int r = 0; r < REGISTERS; r++) {
            set(mill, r, before[r]);
        }
        BigInteger[] due = before.clone();
        int want = model(act, width, due, chosen, more);
        String got;
        try {
            got = call(act, mill, chosen, more) + " " + numbers(mill);
        } catch (RuntimeException e) {
            got = e.toString();
        }
        acts++;
        if (!got.equals(want + " " + Arrays.toString(due)) && wrong++ < 20) {
            System.out.println(act + Arrays.toString(chosen) + " " + more + " on " + Arrays.toString(before) + " of width " + width
                    + " answered " + got + ", due is " + want + " " + Arrays.toString(due));
        }
    }

    private static void set(GcdMill mill, int r, BigInteger value) {
        BigInteger size = value.abs();
        for (int i = (size.bitLength() + 31) / 32 - 1; i >= 0; i--) {
            mill.pushLimb(r, size.shiftRight(32 * i).intValue());
        }
        if (value.signum() < 0) {
            mill.negate(r, r);
        }
    }

    private static String numbers(GcdMill mill) {
        String[] all = new String[REGISTERS];
        for (int r = 0; r < REGISTERS; r++) {
            BigInteger size = ZERO;
            for (int i = mill.length(r) - 1; i >= 0; i--) {
                size = size.shiftLeft(32).add(number(mill.limbAt(r, i) & 0xFFFFFFFFL));
            }
            BigInteger value = mill.sign(r) < 0 ? size.negate() : size;
            boolean sound = value.signum() == mill.sign(r) && mill.length(r) == (size.bitLength() + 31) / 32;
            all[r] = sound ? value.toString() : value + " with sign " + mill.sign(r) + ", length " + mill.length(r);
        }
        return Arrays.toString(all);
    }

    private static int call(Act act, GcdMill mill, int[] r, int more) {
        switch (act) {
            case PUSH_LIMB: return mill.pushLimb(r[0], more);
            case CLEAR: return mill.clear(r[0]) ? 0 : 3;
            case NEGATE: return mill.negate(r[0], r[1]);
            case ADD: return mill.add(r[0], r[1], r[2]);
            case SUBTRACT: return mill.subtract(r[0], r[1], r[2]);
            case MULTIPLY: return mill.multiply(r[0], r[1], r[2]);
            case DIVIDE: return mill.divide(r[0], r[1], r[2], r[3]);
            case SHIFT: return mill.shift(r[0], r[1], more);
            case COMPARE: return mill.compare(r[0], r[1]);
            case GCD_BINARY: return mill.gcdBinary(r[0], r[1], r[2]);
            case GCD_EUCLID: return mill.gcdEuclid(r[0], r[1], r[2]);
            case GCD_LEHMER: return mill.gcdLehmer(r[0], r[1], r[2]);
            case BEZOUT: return mill.bezout(r[0], r[1], r[2], r[3], r[4]);
            case INVERSE: return mill.inverse(r[0], r[1], r[2]);
            case POWER: return mill.power(r[0], r[1], r[2], r[3]);
            case ISQRT: return mill.isqrt(r[0], r[1]);
            case ROOT: return mill.root(r[0], r[1], more);
            case IS_SQUARE: return mill.isSquare(r[0]);
            default: return mill.jacobi(r[0], r[1]);
        }
    }

    /** The answer that is due; the registers become what they have then. */
    private static int model(Act act, int width, BigInteger[] all, int[] r, int more) {
        for (int one : r) {
            if (one < 0 || one >= REGISTERS) {
                return 3;
            }
        }
        BigInteger a = all[r[act.registers == 1 ? 0 : act == Act.COMPARE || act == Act.JACOBI ? 0 : 1]];
        BigInteger b = all[r[r.length - 1]];
        switch (act) {
            case PUSH_LIMB: {
                BigInteger size = a.abs().shiftLeft(32).add(number(more & 0xFFFFFFFFL));
                return put(width, all, new int[] {r[0]}, a.signum() < 0 ? size.negate() : size);
            }
            case CLEAR: return put(width, all, r, ZERO);
            case NEGATE: return put(width, all, r, a.negate());
            case ADD: return put(width, all, r, a.add(b));
            case SUBTRACT: return put(width, all, r, a.subtract(b));
            case MULTIPLY: return put(width, all, r, a.multiply(b));
            case DIVIDE: return r[0] == r[1] ? 3 : b.signum() == 0 ? 2 : put(width, all, r, div(all[r[2]], b), all[r[2]].mod(b.abs()));
            // no register has 5000 bits
            case SHIFT: return put(width, all, r, a.shiftLeft(Math.max(-5000, Math.min(more, 5000))));
            case COMPARE: return a.compareTo(b);
            case GCD_BINARY: case GCD_EUCLID: case GCD_LEHMER: return put(width, all, r, a.gcd(b));
            case BEZOUT: return r[0] == r[1] || r[0] == r[2] || r[1] == r[2] ? 3 : put(width, all, r, factors(all[r[3]], b));
            case INVERSE: return b.signum() <= 0 || !a.gcd(b).equals(ONE) ? 2 : put(width, all, r, a.modInverse(b));
            case POWER: return all[r[2]].signum() < 0 || b.signum() <= 0 ? 2 : put(width, all, r, a.modPow(all[r[2]], b));
            case ISQRT: return a.signum() < 0 ? 2 : put(width, all, r, a.sqrt());
            case ROOT: return a.signum() < 0 || more < 1 ? 2 : put(width, all, r, rootOf(a, more));
            case IS_SQUARE: return a.signum() >= 0 && a.sqrt().pow(2).equals(a) ? 1 : 0;
            default: return b.signum() <= 0 || !b.testBit(0) ? 2 : symbol(a, b);
        }
    }

    private static int put(int width, BigInteger[] all, int[] r, BigInteger... values) {
        for (BigInteger value : values) {
            if (value.abs().bitLength() > 32 * width) {
                return 1;
            }
        }
        for (int i = 0; i < values.length; i++) {
            all[r[i]] = values[i];
        }
        return 0;
    }

    private static BigInteger div(BigInteger a, BigInteger b) {
        return a.subtract(a.mod(b.abs())).divide(b);
    }

    private static BigInteger[] factors(BigInteger a, BigInteger b) {
        BigInteger[] now = {a.abs(), ONE, ZERO};
        BigInteger[] next = {b.abs(), ZERO, ONE};
        while (next[0].signum() != 0) {
            BigInteger q = now[0].divide(next[0]);
            BigInteger[] then = new BigInteger[3];
            for (int i = 0; i < 3; i++) {
                then[i] = now[i].subtract(q.multiply(next[i]));
            }
            now = next;
            next = then;
        }
        return new BigInteger[] {now[0], a.signum() < 0 ? now[1].negate() : now[1], b.signum() < 0 ? now[2].negate() : now[2]};
    }

    private static BigInteger rootOf(BigInteger a, int k) {
        if (k == 1 || a.signum() == 0) {
            return a;
        }
        BigInteger found = ZERO;
        for (int bit = k >= a.bitLength() ? 0 : a.bitLength() / k; bit >= 0; bit--) {
            BigInteger tried = found.setBit(bit);
            if (tried.equals(ONE) || k < a.bitLength() && tried.pow(k).compareTo(a) <= 0) {
                found = tried;
            }
        }
        return found;
    }

    private static int symbol(BigInteger top, BigInteger n) {
        BigInteger a = top.mod(n);
        if (a.signum() == 0) {
            return n.equals(ONE) ? 1 : 0;
        }
        int eighth = n.intValue() & 7;
        if (!a.testBit(0)) {
            return symbol(a.shiftRight(1), n) * (eighth == 3 || eighth == 5 ? -1 : 1);
        }
        return symbol(n, a) * ((eighth & 3) == 3 && (a.intValue() & 3) == 3 ? -1 : 1);
    }

    /** No call throws by itself, whatever it is given and whatever was called ahead of it. */
    private static void anyArguments(int seed) {
        Random random = new Random(seed);
        GcdMill mill = new GcdMill(anyNumber(random), anyNumber(random));
        int registers = mill.count(0);
        for (int i = 0; i < 511; i++) {
            int which = random.nextInt(Act.values().length + 11);
            int[] any = new int[5];
            for (int j = 0; j < any.length; j++) {
                any[j] = random.nextInt(4) == 0 ? anyNumber(random) : random.nextInt(registers);
            }
            acts++;
            try {
                anyCall(mill, which, any, anyNumber(random));
            } catch (NoSuchElementException e) {
                // the four that look at a register throw it of one that is none
                boolean looks = which >= Act.values().length && which < Act.values().length + 4;
                if (!looks || any[0] >= 0 && any[0] < registers) {
                    wrong++;
                    System.out.println("call " + which + Arrays.toString(any) + " throws " + e);
                }
            } catch (RuntimeException e) {
                wrong++;
                System.out.println("call " + which + Arrays.toString(any) + " throws " + e);
            }
        }
    }

    private static int anyNumber(Random random) {
        switch (random.nextInt(5)) {
            case 0: return random.nextInt();
            case 1: return LOW + random.nextInt(40);
            case 2: return HIGH - random.nextInt(40);
            case 3: return random.nextInt(1400) - 100;
            default: return random.nextInt(24) - 4;
        }
    }

    private static void anyCall(GcdMill mill, int which, int[] any, int more) {
        if (which < Act.values().length) {
            call(Act.values()[which], mill, any, more);
            return;
        }
        switch (which - Act.values().length) {
            case 0: mill.sign(any[0]); break;
            case 1: mill.length(any[0]); break;
            case 2: mill.limbAt(any[0], more); break;
            case 3: mill.write(any[0]); break;
            case 4: mill.read(any[0]); break;
            case 5: mill.end(more); break;
            case 6: mill.octet(more); break;
            case 7: mill.count(more); break;
            case 8: mill.lastSteps(); break;
            case 9: mill.feed(0x30313233, 0x34353637, 0x38393031, 0x32333435, 0x36373839); break;
            default: mill.feed(more, any[0], any[1], any[2], any[3]); break;
        }
    }
}
