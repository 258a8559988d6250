import java.math.BigInteger;
import java.util.Random;

/**
 * Runs of calls by chance (the same ones each time), each answer and each register that was written
 * held against a model of the document on Java's BigInteger. No object gets more than 512 calls.
 */
public final class GcdMillRandomRuns {
    private static final int RUNS = 6000;
    private static final int WIDE_RUNS = 3000;
    private static final BigInteger ZERO = BigInteger.ZERO;
    private static final BigInteger ONE = BigInteger.ONE;

    private static int wrong = 0;

    private final Random random;
    private final GcdMill mill;
    private final int registers;
    private final int width;
    private final BigInteger[] numbers;
    private final StringBuilder log = new StringBuilder();
    private String tape = "";
    private String out = "";
    private int steps = 0;
    private int calls = 0;

    private GcdMillRandomRuns(long seed, boolean wide) {
        random = new Random(seed);
        registers = 1 + random.nextInt(wide ? 6 : 16);
        width = wide ? 30 + random.nextInt(11) : 1 + random.nextInt(6);
        mill = new GcdMill(registers, width);
        numbers = new BigInteger[registers];
        java.util.Arrays.fill(numbers, ZERO);
        log.append("seed ").append(seed).append(": new(").append(registers).append(", ").append(width).append(")");
    }

    public static void main(String[] args) {
        for (int i = 0; i < RUNS && wrong < 20; i++) {
            new GcdMillRandomRuns(i, false).run();
        }
        for (int i = 0; i < WIDE_RUNS && wrong < 20; i++) {
            new GcdMillRandomRuns(100000 + i, true).run();
        }
        System.out.println(wrong == 0 ? "all answers are as due" : wrong + " runs have a wrong answer");
        if (wrong != 0) {
            System.exit(1);
        }
    }

    /** A run ends at its first wrong answer: what comes behind it tells nothing more. */
    private void run() {
        int atOnce = 3 * (width + 2) + 60;
        int loads = 3;
        while (calls + atOnce <= 512) {
            String fault = loads > 0 ? loadDigits() : act();
            loads--;
            if (fault != null) {
                wrong++;
                System.out.println(log + " -> " + fault);
                return;
            }
        }
    }

    private int reg() {
        int chance = random.nextInt(60);
        if (chance == 0) {
            return -1 - random.nextInt(3);
        }
        if (chance == 1) {
            return registers + random.nextInt(3);
        }
        return random.nextInt(registers);
    }

    private boolean none(int... all) {
        for (int r : all) {
            if (r < 0 || r >= registers) {
                return true;
            }
        }
        return false;
    }

    private boolean fits(BigInteger x) {
        return x.abs().bitLength() <= 32 * width;
    }

    private String act() {
        switch (random.nextInt(26)) {
            case 0: case 1: case 2: case 3: return loadLimbs();
            case 4: case 5: return loadDigits();
            case 6: return negate();
            case 7: return addOrSubtract(true);
            case 8: return addOrSubtract(false);
            case 9: return multiply();
            case 10: case 11: return divide();
            case 12: return shift();
            case 13: return compare();
            case 14: case 15: case 16: return gcd();
            case 17: return bezout();
            case 18: return inverse();
            case 19: return power();
            case 20: return root();
            case 21: return isSquare();
            case 22: return jacobi();
            case 23: return looks();
            case 24: return tapeOnly();
            default: return writeOut();
        }
    }

    private String due(String call, long got, long want) {
        calls++;
        log.append("; ").append(call).append("=").append(got);
        return got == want ? null : call + " answered " + got + ", due is " + want;
    }

    /** The answer and, register by register, what is there behind the act. */
    private String dueAct(String call, int got, int want, int... written) {
        String fault = due(call, got, want);
        for (int i = 0; i < written.length && fault == null; i++) {
            if (!none(written[i])) {
                fault = checkRegister(call, written[i]);
            }
        }
        return fault;
    }

    private String checkRegister(String call, int r) {
        BigInteger got = ZERO;
        int length = mill.length(r);
        calls += length + 2;
        for (int i = length - 1; i >= 0; i--) {
            got = got.shiftLeft(32).add(BigInteger.valueOf(mill.limbAt(r, i) & 0xFFFFFFFFL));
        }
        int sign = mill.sign(r);
        if (sign < 0) {
            got = got.negate();
        }
        boolean same = got.equals(numbers[r]) && sign == numbers[r].signum()
                && length == (numbers[r].abs().bitLength() + 31) / 32;
        return same ? null : "behind " + call + " register " + r + " has " + got + " (sign " + sign
                + ", length " + length + "), due is " + numbers[r];
    }

    private int limb() {
        switch (random.nextInt(6)) {
            case 0: return 0;
            case 1: return -1;
            case 2: return random.nextInt(4);
            case 3: return Integer.MIN_VALUE + random.nextInt(3) - 1;
            default: return random.nextInt();
        }
    }

    private String loadLimbs() {
        int r = reg();
        int count = random.nextInt(width + 2);
        boolean due = !none(r);
        String fault = null;
        if (random.nextInt(3) > 0) {
            boolean got = mill.clear(r);
            fault = due("clear(" + r + ")", got ? 1 : 0, due ? 1 : 0);
            if (due) {
                numbers[r] = ZERO;
            }
        }
        for (int i = 0; i < count && fault == null; i++) {
            int w = limb();
            int want = 3;
            if (!none(r)) {
                BigInteger size = numbers[r].abs().shiftLeft(32).add(BigInteger.valueOf(w & 0xFFFFFFFFL));
                want = fits(size) ? 0 : 1;
                if (want == 0) {
                    numbers[r] = numbers[r].signum() < 0 ? size.negate() : size;
                }
            }
            fault = due("pushLimb(" + r + ", " + w + ")", mill.pushLimb(r, w), want);
        }
        return fault != null || none(r) ? fault : checkRegister("pushLimb", r);
    }

    private String feedText(String text) {
        String fault = null;
        int[] five = new int[5];
        for (int at = 0; at < text.length() && fault == null; at += 20) {
            for (int i = 0; i < 5; i++) {
                five[i] = 0;
                for (int j = 0; j < 4; j++) {
                    int where = at + 4 * i + j;
                    five[i] = five[i] << 8 | (where < text.length() ? text.charAt(where) : 0);
                }
            }
            boolean room = tape.length() + 20 <= 1000;
            if (room) {
                StringBuilder more = new StringBuilder(tape);
                for (int i = 0; i < 20; i++) {
                    more.append(at + i < text.length() ? text.charAt(at + i) : (char) 0);
                }
                tape = more.toString();
            }
            fault = due("feed", mill.feed(five[0], five[1], five[2], five[3], five[4]), room ? tape.length() : -1);
        }
        return fault;
    }

    private String cutTape(int n) {
        boolean good = n >= 0 && n <= tape.length();
        if (good) {
            tape = tape.substring(0, n);
        }
        return due("end(" + n + ")", mill.end(n) ? 1 : 0, good ? 1 : 0);
    }

    private String loadDigits() {
        StringBuilder text = new StringBuilder();
        if (random.nextInt(3) == 0) {
            text.append('-');
        }
        for (int i = random.nextInt(4); i > 0; i--) {
            text.append('0');
        }
        BigInteger number = new BigInteger(1 + random.nextInt(32 * width + 2), random);
        if (random.nextInt(6) == 0) {
            number = ONE.shiftLeft(32 * width).subtract(BigInteger.valueOf(random.nextInt(3) - 1));
        }
        text.append(number);
        if (random.nextInt(10) == 0) {
            text.insert(random.nextInt(text.length() + 1), "-/:0a \u00b2\u00ff".charAt(random.nextInt(8)));
        }
        if (random.nextInt(20) == 0) {
            text.setLength(random.nextInt(2));
        }
        String fault = cutTape(0);
        if (fault == null) {
            fault = feedText(text.toString());
        }
        if (fault == null && text.length() > 0) {
            fault = cutTape(text.length());
        }
        return fault != null ? fault : readTape(reg());
    }

    private String readTape(int r) {
        int want = 3;
        if (!none(r)) {
            want = 2;
            if (tape.matches("-?[0-9]+")) {
                BigInteger value = new BigInteger(tape);
                want = fits(value) ? 0 : 1;
                if (want == 0) {
                    numbers[r] = value;
                }
            }
            tape = "";
        }
        String fault = dueAct("read(" + r + ")", mill.read(r), want, r);
        return fault != null ? fault : due("count(2)", mill.count(2), tape.length());
    }

    private String tapeOnly() {
        int what = random.nextInt(8) - 2;
        int[] counts = {registers, width, tape.length(), out.length()};
        String fault = due("count(" + what + ")", mill.count(what), what < 0 || what > 3 ? -1 : counts[what]);
        if (fault != null) {
            return fault;
        }
        if (random.nextBoolean()) {
            return feedText("12345678901234567890".repeat(1 + random.nextInt(30)));
        }
        return cutTape(random.nextInt(tape.length() + 20) - 5);
    }

    private String writeOut() {
        int r = reg();
        long got;
        try {
            got = mill.write(r);
        } catch (java.util.NoSuchElementException e) {
            got = -2;
        }
        if (!none(r)) {
            out = numbers[r].toString();
        }
        String fault = due("write(" + r + ")", got, none(r) ? -2 : out.length());
        int from = random.nextInt(out.length() + 1);
        for (int k = Math.max(from - 3, -1); k < Math.min(from + 40, out.length() + 2) && fault == null; k++) {
            fault = due("octet(" + k + ")", mill.octet(k), k < 0 || k >= out.length() ? -1 : out.charAt(k));
        }
        return fault;
    }

    private String negate() {
        int d = reg();
        int a = reg();
        int want = none(d, a) ? 3 : 0;
        if (want == 0) {
            numbers[d] = numbers[a].negate();
        }
        return dueAct("negate(" + d + ", " + a + ")", mill.negate(d, a), want, d, a);
    }

    private int keep(int d, BigInteger value) {
        if (!fits(value)) {
            return 1;
        }
        numbers[d] = value;
        return 0;
    }

    private String addOrSubtract(boolean plus) {
        int d = reg();
        int a = reg();
        int b = reg();
        int want = none(d, a, b) ? 3 : keep(d, plus ? numbers[a].add(numbers[b]) : numbers[a].subtract(numbers[b]));
        String call = (plus ? "add(" : "subtract(") + d + ", " + a + ", " + b + ")";
        return dueAct(call, plus ? mill.add(d, a, b) : mill.subtract(d, a, b), want, d, a);
    }

    private String multiply() {
        int d = reg();
        int a = reg();
        int b = reg();
        int want = none(d, a, b) ? 3 : keep(d, numbers[a].multiply(numbers[b]));
        return dueAct("multiply(" + d + ", " + a + ", " + b + ")", mill.multiply(d, a, b), want, d, b);
    }

    private static BigInteger mod(BigInteger a, BigInteger b) {
        return a.mod(b.abs());
    }

    private String divide() {
        int q = reg();
        int m = reg();
        int a = reg();
        int b = reg();
        int want = 0;
        if (none(q, m, a, b) || q == m) {
            want = 3;
        } else if (numbers[b].signum() == 0) {
            want = 2;
        } else {
            BigInteger rest = mod(numbers[a], numbers[b]);
            BigInteger quotient = numbers[a].subtract(rest).divide(numbers[b]);
            numbers[q] = quotient;
            numbers[m] = rest;
        }
        return dueAct("divide(" + q + ", " + m + ", " + a + ", " + b + ")", mill.divide(q, m, a, b), want, q, m);
    }

    private String shift() {
        int d = reg();
        int a = reg();
        int[] edges = {Integer.MIN_VALUE, Integer.MAX_VALUE, 32, -32, 0, -32 * width, 32 * width, 1 - 32 * width};
        int n = random.nextInt(3) == 0 ? edges[random.nextInt(8)] : random.nextInt(64 * width + 8) - 32 * width - 4;
        int want = 3;
        if (!none(d, a)) {
            BigInteger x = numbers[a];
            if (n < 0) {
                // 5000 bits down are more than any register has
                want = keep(d, x.shiftRight(-Math.max(n, -5000)));
            } else {
                want = keep(d, x.shiftLeft(Math.min(n, 5000)));
            }
        }
        return dueAct("shift(" + d + ", " + a + ", " + n + ")", mill.shift(d, a, n), want, d, a);
    }

    private String compare() {
        int a = reg();
        int b = reg();
        int want = none(a, b) ? 3 : numbers[a].compareTo(numbers[b]);
        return due("compare(" + a + ", " + b + ")", mill.compare(a, b), want);
    }

    private String gcd() {
        int d = reg();
        int a = reg();
        int b = reg();
        int want = none(d, a, b) ? 3 : 0;
        int way = random.nextInt(4);
        if (want == 0 && way > 1) {
            steps = lehmerSteps(numbers[a].abs(), numbers[b].abs());
        }
        if (want == 0) {
            numbers[d] = numbers[a].gcd(numbers[b]);
        }
        String tail = "(" + d + ", " + a + ", " + b + ")";
        String fault;
        if (way == 0) {
            fault = dueAct("gcdBinary" + tail, mill.gcdBinary(d, a, b), want, d, a);
        } else if (way == 1) {
            fault = dueAct("gcdEuclid" + tail, mill.gcdEuclid(d, a, b), want, d, a);
        } else {
            fault = dueAct("gcdLehmer" + tail, mill.gcdLehmer(d, a, b), want, d, a);
        }
        return fault != null ? fault : due("lastSteps()", mill.lastSteps(), steps);
    }

    /** The document's words, on numbers without a bound. */
    private static int lehmerSteps(BigInteger first, BigInteger second) {
        BigInteger u = first.max(second);
        BigInteger v = first.min(second);
        int count = 0;
        while (v.bitLength() > 32) {
            int h = u.bitLength();
            BigInteger top = u.shiftRight(h - 32);
            BigInteger low = v.shiftRight(h - 32);
            BigInteger a = ONE;
            BigInteger b = ZERO;
            BigInteger c = ZERO;
            BigInteger d = ONE;
            while (low.add(c).signum() != 0 && low.add(d).signum() != 0) {
                BigInteger q = div(top.add(a), low.add(c));
                if (!q.equals(div(top.add(b), low.add(d)))) {
                    break;
                }
                BigInteger next = a.subtract(q.multiply(c));
                a = c;
                c = next;
                next = b.subtract(q.multiply(d));
                b = d;
                d = next;
                next = top.subtract(q.multiply(low));
                top = low;
                low = next;
            }
            if (b.signum() == 0) {
                BigInteger rest = u.mod(v);
                u = v;
                v = rest;
                count++;
            } else {
                BigInteger newU = a.multiply(u).add(b.multiply(v));
                v = c.multiply(u).add(d.multiply(v));
                u = newU;
            }
        }
        return v.signum() != 0 && u.bitLength() > 32 ? count + 1 : count;
    }

    private static BigInteger div(BigInteger a, BigInteger b) {
        return a.subtract(mod(a, b)).divide(b);
    }

    private String bezout() {
        int g = reg();
        int x = reg();
        int y = reg();
        int a = reg();
        int b = reg();
        int want = none(g, x, y, a, b) || g == x || g == y || x == y ? 3 : 0;
        if (want == 0) {
            BigInteger[] all = factors(numbers[a], numbers[b]);
            numbers[g] = all[0];
            numbers[x] = all[1];
            numbers[y] = all[2];
        }
        String call = "bezout(" + g + ", " + x + ", " + y + ", " + a + ", " + b + ")";
        return dueAct(call, mill.bezout(g, x, y, a, b), want, g, x, y);
    }

    private static BigInteger[] factors(BigInteger a, BigInteger b) {
        BigInteger r = a.abs();
        BigInteger s = b.abs();
        BigInteger x = ONE;
        BigInteger y = ZERO;
        BigInteger z = ZERO;
        BigInteger w = ONE;
        while (s.signum() != 0) {
            BigInteger q = r.divide(s);
            BigInteger next = r.subtract(q.multiply(s));
            r = s;
            s = next;
            next = x.subtract(q.multiply(z));
            x = z;
            z = next;
            next = y.subtract(q.multiply(w));
            y = w;
            w = next;
        }
        return new BigInteger[] {r, a.signum() < 0 ? x.negate() : x, b.signum() < 0 ? y.negate() : y};
    }

    private String inverse() {
        int d = reg();
        int a = reg();
        int n = reg();
        int want = 0;
        if (none(d, a, n)) {
            want = 3;
        } else if (numbers[n].signum() <= 0 || !numbers[a].gcd(numbers[n]).equals(ONE)) {
            want = 2;
        } else {
            numbers[d] = numbers[a].modInverse(numbers[n]);
        }
        return dueAct("inverse(" + d + ", " + a + ", " + n + ")", mill.inverse(d, a, n), want, d, a);
    }

    private String power() {
        int d = reg();
        int a = reg();
        int e = reg();
        int n = reg();
        int want = 0;
        if (none(d, a, e, n)) {
            want = 3;
        } else if (numbers[e].signum() < 0 || numbers[n].signum() <= 0) {
            want = 2;
        } else {
            numbers[d] = numbers[a].modPow(numbers[e], numbers[n]);
        }
        return dueAct("power(" + d + ", " + a + ", " + e + ", " + n + ")", mill.power(d, a, e, n), want, d, a);
    }

    private String root() {
        int d = reg();
        int a = reg();
        boolean square = random.nextBoolean();
        int[] edges = {0, -1, Integer.MIN_VALUE, Integer.MAX_VALUE, 32 * width - 1, 32 * width, 1, 2};
        int k = random.nextInt(3) == 0 ? edges[random.nextInt(8)] : 2 + random.nextInt(1 + random.nextInt(32 * width));
        if (square) {
            k = 2;
        }
        int want = 3;
        if (!none(d, a)) {
            want = numbers[a].signum() < 0 || k < 1 ? 2 : 0;
            if (want == 0) {
                numbers[d] = rootOf(numbers[a], k);
            }
        }
        if (square) {
            return dueAct("isqrt(" + d + ", " + a + ")", mill.isqrt(d, a), want, d, a);
        }
        return dueAct("root(" + d + ", " + a + ", " + k + ")", mill.root(d, a, k), want, d, a);
    }

    private static BigInteger rootOf(BigInteger a, int k) {
        if (k == 1) {
            return a;
        }
        if (k >= a.bitLength()) {
            return BigInteger.valueOf(a.signum());
        }
        BigInteger low = ONE;
        BigInteger high = ONE.shiftLeft(a.bitLength() / k + 1);
        while (high.subtract(low).compareTo(ONE) > 0) {
            BigInteger middle = low.add(high).shiftRight(1);
            if (middle.pow(k).compareTo(a) <= 0) {
                low = middle;
            } else {
                high = middle;
            }
        }
        return low;
    }

    private String isSquare() {
        int a = reg();
        if (!none(a) && random.nextBoolean()) {
            int want = keep(a, numbers[a].multiply(numbers[a]));
            String fault = dueAct("multiply(" + a + ", " + a + ", " + a + ")", mill.multiply(a, a, a), want, a);
            if (fault != null) {
                return fault;
            }
        }
        int want = 3;
        if (!none(a)) {
            want = numbers[a].signum() >= 0 && numbers[a].sqrt().pow(2).equals(numbers[a]) ? 1 : 0;
        }
        return due("isSquare(" + a + ")", mill.isSquare(a), want);
    }

    private String jacobi() {
        int a = reg();
        int n = reg();
        int want = 3;
        if (!none(a, n)) {
            want = numbers[n].signum() <= 0 || !numbers[n].testBit(0) ? 2 : symbol(numbers[a], numbers[n]);
        }
        return due("jacobi(" + a + ", " + n + ")", mill.jacobi(a, n), want);
    }

    private static int symbol(BigInteger top, BigInteger bottom) {
        BigInteger a = top.mod(bottom);
        BigInteger n = bottom;
        int sign = 1;
        while (a.signum() != 0) {
            while (!a.testBit(0)) {
                a = a.shiftRight(1);
                int eighth = n.intValue() & 7;
                if (eighth == 3 || eighth == 5) {
                    sign = -sign;
                }
            }
            BigInteger other = a;
            a = n;
            n = other;
            if ((a.intValue() & 3) == 3 && (n.intValue() & 3) == 3) {
                sign = -sign;
            }
            a = a.mod(n);
        }
        return n.equals(ONE) ? sign : 0;
    }

    private String looks() {
        int r = reg();
        int i = random.nextInt(width + 4) - 2;
        long sign = -9;
        long length = -9;
        long limb = Long.MIN_VALUE;
        try {
            sign = mill.sign(r);
        } catch (java.util.NoSuchElementException e) {
            sign = -5;
        }
        try {
            length = mill.length(r);
        } catch (java.util.NoSuchElementException e) {
            length = -5;
        }
        try {
            limb = mill.limbAt(r, i);
        } catch (java.util.NoSuchElementException e) {
            limb = Long.MAX_VALUE;
        }
        String fault = due("sign(" + r + ")", sign, none(r) ? -5 : numbers[r].signum());
        if (fault == null) {
            fault = due("length(" + r + ")", length, none(r) ? -5 : (numbers[r].abs().bitLength() + 31) / 32);
        }
        if (fault == null) {
            long want = none(r) ? Long.MAX_VALUE : i < 0 ? 0 : numbers[r].abs().shiftRight(32 * i).intValue();
            fault = due("limbAt(" + r + ", " + i + ")", limb, want);
        }
        return fault;
    }
}
