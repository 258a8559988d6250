import java.util.NoSuchElementException;

/**
 * A mill for whole numbers of any size that its registers hold. Every act works on rows that the
 * constructor made and puts its result into a register last, so that a register may be read and
 * written by one act, and a refused act changes nothing.
 */
public final class GcdMill {
    public static final int NONE = -1;

    private static final int DONE = 0;
    private static final int NO_ROOM = 1;
    private static final int UNDEFINED = 2;
    private static final int NO_REGISTER = 3;

    private static final int MOST_REGISTERS = 16;
    private static final int MOST_WIDTH = 40;
    private static final int MOST_TAPE = 1000;
    private static final int FEED = 20;

    private static final int LIMB_BITS = 32;
    private static final long MASK = 0xFFFFFFFFL;
    private static final int CHUNK = 1000000000;
    private static final int CHUNK_DIGITS = 9;
    /** Far above the turns of any loop here: numbers of 40 limbs need some 2600 at most. */
    private static final int MANY = 1000000;

    private final int width;
    private final Whole[] registers;
    private final Divider divider;
    private final Divisors divisors;
    private final Lehmer lehmer;
    private final Factors factors;
    private final Residues residues;
    private final Roots roots;
    private final Tape tape;
    private final Out out;
    private final Whole result;
    private final Whole rest;
    private final Whole one;
    private int steps;

    public GcdMill(int registers, int width) {
        this.width = Math.max(1, Math.min(width, MOST_WIDTH));
        this.registers = new Whole[Math.max(1, Math.min(registers, MOST_REGISTERS))];
        for (int i = 0; i < this.registers.length; i++) {
            this.registers[i] = new Whole(this.width);
        }
        // a product of two registers, and a limb more for the division's shift
        int room = 2 * this.width + 2;
        divider = new Divider(room);
        divisors = new Divisors(room, divider);
        lehmer = new Lehmer(room, divider);
        factors = new Factors(room, divider);
        residues = new Residues(room, divider);
        roots = new Roots(room, divider);
        tape = new Tape();
        out = new Out(this.width, room);
        result = new Whole(room);
        rest = new Whole(room);
        one = new Whole(1);
        one.become(1);
    }

    public int pushLimb(int r, int w) {
        if (!isRegister(r)) {
            return NO_REGISTER;
        }
        Whole number = registers[r];
        Sizes.shiftUp(result, number, LIMB_BITS);
        rest.become(w);
        Sizes.sum(result, result, rest);
        result.takeSign(number.below);
        return put(r, result);
    }

    public boolean clear(int r) {
        if (!isRegister(r)) {
            return false;
        }
        registers[r].become(0);
        return true;
    }

    public int negate(int d, int a) {
        if (!areRegisters(d, a)) {
            return NO_REGISTER;
        }
        result.copy(registers[a]);
        result.takeSign(!registers[a].below);
        return put(d, result);
    }

    public int add(int d, int a, int b) {
        if (!areRegisters(d, a, b)) {
            return NO_REGISTER;
        }
        Sizes.signedSum(result, registers[a], registers[b], registers[b].below);
        return put(d, result);
    }

    public int subtract(int d, int a, int b) {
        if (!areRegisters(d, a, b)) {
            return NO_REGISTER;
        }
        Sizes.signedSum(result, registers[a], registers[b], !registers[b].below);
        return put(d, result);
    }

    public int multiply(int d, int a, int b) {
        if (!areRegisters(d, a, b)) {
            return NO_REGISTER;
        }
        Sizes.product(result, registers[a], registers[b]);
        result.takeSign(registers[a].below != registers[b].below);
        return put(d, result);
    }

    public int divide(int q, int m, int a, int b) {
        if (!areRegisters(q, m) || !areRegisters(a, b) || q == m) {
            return NO_REGISTER;
        }
        Whole dividend = registers[a];
        Whole divisor = registers[b];
        if (divisor.used == 0) {
            return UNDEFINED;
        }
        divider.split(result, rest, dividend, divisor);
        if (dividend.below && rest.used > 0) {
            // the rest may not be below 0, so the quotient goes one further from 0
            Sizes.sum(result, result, one);
            Sizes.difference(rest, divisor, rest);
        }
        result.takeSign(dividend.below != divisor.below);
        if (result.used > width || rest.used > width) {
            return NO_ROOM;
        }
        registers[q].copy(result);
        registers[m].copy(rest);
        return DONE;
    }

    public int shift(int d, int a, int n) {
        if (!areRegisters(d, a)) {
            return NO_REGISTER;
        }
        Whole number = registers[a];
        if (n < 0) {
            halve(number, -(long) n);
            return put(d, result);
        }
        if (number.used > 0 && number.bits() + (long) n > (long) LIMB_BITS * width) {
            return NO_ROOM;
        }
        // 0 is not shifted at all: no n has room for it otherwise
        Sizes.shiftUp(result, number, number.used > 0 ? n : 0);
        result.takeSign(number.below);
        return put(d, result);
    }

    public int compare(int a, int b) {
        if (!areRegisters(a, b)) {
            return NO_REGISTER;
        }
        Whole left = registers[a];
        Whole right = registers[b];
        if (left.below != right.below) {
            return left.below ? -1 : 1;
        }
        int order = Sizes.order(left, right);
        return left.below ? -order : order;
    }

    public int gcdBinary(int d, int a, int b) {
        if (!areRegisters(d, a, b)) {
            return NO_REGISTER;
        }
        return put(d, divisors.byHalves(registers[a], registers[b]));
    }

    public int gcdEuclid(int d, int a, int b) {
        if (!areRegisters(d, a, b)) {
            return NO_REGISTER;
        }
        return put(d, divisors.byQuotients(registers[a], registers[b]));
    }

    public int gcdLehmer(int d, int a, int b) {
        if (!areRegisters(d, a, b)) {
            return NO_REGISTER;
        }
        int answer = put(d, lehmer.divisor(registers[a], registers[b]));
        steps = lehmer.steps;
        return answer;
    }

    public int lastSteps() {
        return steps;
    }

    public int bezout(int g, int x, int y, int a, int b) {
        if (!areRegisters(g, x, y) || !areRegisters(a, b) || g == x || g == y || x == y) {
            return NO_REGISTER;
        }
        factors.find(registers[a], registers[b]);
        if (factors.r.used > width || factors.x.used > width || factors.y.used > width) {
            return NO_ROOM;
        }
        registers[g].copy(factors.r);
        registers[x].copy(factors.x);
        registers[y].copy(factors.y);
        return DONE;
    }

    public int inverse(int d, int a, int n) {
        if (!areRegisters(d, a, n)) {
            return NO_REGISTER;
        }
        Whole modulus = registers[n];
        if (!modulus.isAboveZero()) {
            return UNDEFINED;
        }
        residues.reduce(rest, registers[a], modulus);
        factors.find(rest, modulus);
        if (Sizes.order(factors.r, one) != 0) {
            return UNDEFINED;
        }
        residues.reduce(result, factors.x, modulus);
        return put(d, result);
    }

    public int power(int d, int a, int e, int n) {
        if (!areRegisters(d, a) || !areRegisters(e, n)) {
            return NO_REGISTER;
        }
        if (registers[e].below || !registers[n].isAboveZero()) {
            return UNDEFINED;
        }
        return put(d, residues.raise(registers[a], registers[e], registers[n]));
    }

    public int isqrt(int d, int a) {
        if (!areRegisters(d, a)) {
            return NO_REGISTER;
        }
        if (registers[a].below) {
            return UNDEFINED;
        }
        return put(d, roots.find(registers[a], 2));
    }

    public int root(int d, int a, int k) {
        if (!areRegisters(d, a)) {
            return NO_REGISTER;
        }
        if (registers[a].below || k < 1) {
            return UNDEFINED;
        }
        return put(d, roots.find(registers[a], k));
    }

    public int isSquare(int a) {
        if (!isRegister(a)) {
            return NO_REGISTER;
        }
        Whole number = registers[a];
        if (number.below) {
            return 0;
        }
        Whole side = roots.find(number, 2);
        Sizes.product(result, side, side);
        return Sizes.order(result, number) == 0 ? 1 : 0;
    }

    public int jacobi(int a, int n) {
        if (!areRegisters(a, n)) {
            return NO_REGISTER;
        }
        Whole modulus = registers[n];
        if (!modulus.isAboveZero() || !modulus.isOdd()) {
            return UNDEFINED;
        }
        return residues.symbol(registers[a], modulus);
    }

    public int sign(int r) throws NoSuchElementException {
        Whole number = registerOrThrow(r);
        if (number.used == 0) {
            return 0;
        }
        return number.below ? -1 : 1;
    }

    public int length(int r) throws NoSuchElementException {
        return registerOrThrow(r).used;
    }

    public int limbAt(int r, int i) throws NoSuchElementException {
        return (int) registerOrThrow(r).limb(i);
    }

    public int feed(int a, int b, int c, int d, int e) {
        if (tape.held > MOST_TAPE - FEED) {
            return NONE;
        }
        tape.append(a);
        tape.append(b);
        tape.append(c);
        tape.append(d);
        tape.append(e);
        return tape.held;
    }

    public boolean end(int n) {
        if (n < 0 || n > tape.held) {
            return false;
        }
        tape.held = n;
        return true;
    }

    public int read(int r) {
        if (!isRegister(r)) {
            return NO_REGISTER;
        }
        boolean decimal = tape.isDecimal();
        boolean fits = decimal && tape.parse(result, width);
        tape.held = 0;
        if (!decimal) {
            return UNDEFINED;
        }
        return fits ? put(r, result) : NO_ROOM;
    }

    public int write(int r) throws NoSuchElementException {
        out.print(registerOrThrow(r));
        return out.held;
    }

    public int octet(int k) {
        return k < 0 || k >= out.held ? NONE : out.bytes[k];
    }

    public int count(int what) {
        switch (what) {
            case 0:
                return registers.length;
            case 1:
                return width;
            case 2:
                return tape.held;
            case 3:
                return out.held;
            default:
                return NONE;
        }
    }

    private boolean isRegister(int r) {
        return r >= 0 && r < registers.length;
    }

    private boolean areRegisters(int a, int b) {
        return isRegister(a) && isRegister(b);
    }

    private boolean areRegisters(int a, int b, int c) {
        return isRegister(a) && isRegister(b) && isRegister(c);
    }

    private Whole registerOrThrow(int r) {
        if (!isRegister(r)) {
            throw new NoSuchElementException("no such register");
        }
        return registers[r];
    }

    private int put(int d, Whole value) {
        if (value.used > width) {
            return NO_ROOM;
        }
        registers[d].copy(value);
        return DONE;
    }

    /** The result becomes number DIV 2^n; a number below 0 goes down, away from 0. */
    private void halve(Whole number, long n) {
        int bits = number.bits();
        int drop = n > bits ? bits : (int) n;
        boolean inexact = number.used > 0 && number.lowZeros() < n;
        Sizes.shiftDown(result, number, drop);
        if (number.below && inexact) {
            Sizes.sum(result, result, one);
        }
        result.takeSign(number.below);
    }

    /** A whole number: its size in limbs, the lowest first, and whether it is below 0. */
    private static final class Whole {
        final int[] limbs;
        int used;
        boolean below;

        Whole(int room) {
            limbs = new int[Math.max(1, room)];
        }

        /** Takes 32 bits without a sign. */
        void become(int small) {
            limbs[0] = small;
            keep(1);
        }

        void copy(Whole other) {
            int count = Math.min(other.used, limbs.length);
            System.arraycopy(other.limbs, 0, limbs, 0, count);
            used = count;
            below = other.below;
        }

        /** The lowest limbs are the size; 0s at their top are no limbs. */
        void keep(int count) {
            used = Math.max(0, Math.min(count, limbs.length));
            while (used > 0 && limbs[used - 1] == 0) {
                used--;
            }
            below = false;
        }

        /** 0 has no sign, whatever is asked. */
        void takeSign(boolean wanted) {
            below = wanted && used > 0;
        }

        boolean isAboveZero() {
            return used > 0 && !below;
        }

        boolean isOdd() {
            return (limb(0) & 1) == 1;
        }

        long limb(int i) {
            return i < 0 || i >= used ? 0 : limbs[i] & MASK;
        }

        int bits() {
            if (used == 0) {
                return 0;
            }
            return LIMB_BITS * used - Integer.numberOfLeadingZeros(limbs[used - 1]);
        }

        boolean hasBit(int i) {
            return (limb(i >> 5) >>> (i & 31) & 1) == 1;
        }

        /** The 32 bits from bit i on. */
        long window(int i) {
            long pair = limb((i >> 5) + 1) << LIMB_BITS | limb(i >> 5);
            return pair >>> (i & 31) & MASK;
        }

        int lowZeros() {
            for (int i = 0; i < used; i++) {
                if (limbs[i] != 0) {
                    return LIMB_BITS * i + Integer.numberOfTrailingZeros(limbs[i]);
                }
            }
            return 0;
        }
    }

    /**
     * Arithmetic on sizes. The number that is written may be one that is read, but for product. One
     * that has not room becomes 0: the rows are made so that this never happens.
     */
    private static final class Sizes {
        static int order(Whole a, Whole b) {
            if (a.used != b.used) {
                return a.used > b.used ? 1 : -1;
            }
            for (int i = a.used - 1; i >= 0; i--) {
                if (a.limbs[i] != b.limbs[i]) {
                    return a.limb(i) > b.limb(i) ? 1 : -1;
                }
            }
            return 0;
        }

        static void sum(Whole d, Whole a, Whole b) {
            int count = Math.max(a.used, b.used);
            if (count >= d.limbs.length) {
                d.keep(0);
                return;
            }
            long carry = 0;
            for (int i = 0; i < count; i++) {
                carry += a.limb(i) + b.limb(i);
                d.limbs[i] = (int) carry;
                carry >>>= LIMB_BITS;
            }
            d.limbs[count] = (int) carry;
            d.keep(count + 1);
        }

        /** The size of a is not less than that of b. */
        static void difference(Whole d, Whole a, Whole b) {
            int count = a.used;
            if (count > d.limbs.length) {
                d.keep(0);
                return;
            }
            long carry = 0;
            for (int i = 0; i < count; i++) {
                carry += a.limb(i) - b.limb(i);
                d.limbs[i] = (int) carry;
                carry >>= LIMB_BITS;
            }
            d.keep(count);
        }

        /** a + b with their signs, b taken as below 0 if bBelow says so. */
        static void signedSum(Whole d, Whole a, Whole b, boolean bBelow) {
            boolean aBelow = a.below;
            if (aBelow == bBelow) {
                sum(d, a, b);
                d.takeSign(aBelow);
            } else if (order(a, b) >= 0) {
                difference(d, a, b);
                d.takeSign(aBelow);
            } else {
                difference(d, b, a);
                d.takeSign(bBelow);
            }
        }

        static void product(Whole d, Whole a, Whole b) {
            int[] row = d.limbs;
            int count = b.used;
            if (a.used + count > row.length) {
                d.keep(0);
                return;
            }
            for (int i = 0; i < count; i++) {
                row[i] = 0;
            }
            for (int i = 0; i < a.used; i++) {
                long factor = a.limbs[i] & MASK;
                long carry = 0;
                for (int j = 0; j < count; j++) {
                    carry += factor * (b.limbs[j] & MASK) + (row[i + j] & MASK);
                    row[i + j] = (int) carry;
                    carry >>>= LIMB_BITS;
                }
                row[i + count] = (int) carry;
            }
            d.keep(a.used + count);
        }

        static void shiftUp(Whole d, Whole a, int n) {
            int jump = n >> 5;
            int bits = n & 31;
            int count = a.used;
            if (n < 0 || count + jump >= d.limbs.length) {
                d.keep(0);
                return;
            }
            // from the top down, so that d may be a
            for (int i = count; i >= 0; i--) {
                long pair = a.limb(i) << LIMB_BITS | a.limb(i - 1);
                d.limbs[i + jump] = (int) (pair << bits >>> LIMB_BITS);
            }
            for (int i = 0; i < jump; i++) {
                d.limbs[i] = 0;
            }
            d.keep(count + jump + 1);
        }

        static void shiftDown(Whole d, Whole a, int n) {
            int jump = n >> 5;
            int count = a.used - jump;
            if (n < 0 || count <= 0 || count > d.limbs.length) {
                d.keep(0);
                return;
            }
            for (int i = 0; i < count; i++) {
                d.limbs[i] = (int) a.window(LIMB_BITS * i + n);
            }
            d.keep(count);
        }
    }

    /** Quotients of sizes, by the school's way on limbs (Knuth's Algorithm D). */
    private static final class Divider {
        private final Whole divisor;

        Divider(int room) {
            divisor = new Whole(room);
        }

        /** q and m are neither a nor b, nor one another. A divisor of 0 leaves both 0. */
        void split(Whole q, Whole m, Whole a, Whole b) {
            int top = a.used - b.used;
            q.keep(0);
            m.keep(0);
            if (b.used == 0 || top >= q.limbs.length || a.used >= m.limbs.length
                    || b.used >= divisor.limbs.length) {
                return;
            }
            if (Sizes.order(a, b) < 0) {
                m.copy(a);
                m.below = false;
                return;
            }
            if (b.used == 1) {
                m.become(splitByLimb(q, a, b.limbs[0]));
                return;
            }
            // with the highest bit set, a guess from two limbs is at most two too great
            int lift = Integer.numberOfLeadingZeros(b.limbs[b.used - 1]);
            Sizes.shiftUp(divisor, b, lift);
            // this writes limb a.used of m too, though it may be 0
            Sizes.shiftUp(m, a, lift);
            for (int j = top; j >= 0; j--) {
                q.limbs[j] = quotientLimb(m.limbs, j, b.used);
            }
            q.keep(top + 1);
            m.keep(b.used);
            Sizes.shiftDown(m, m, lift);
        }

        private int splitByLimb(Whole q, Whole a, int small) {
            long by = small & MASK;
            long over = 0;
            for (int i = a.used - 1; i >= 0; i--) {
                long pair = over << LIMB_BITS | a.limb(i);
                long digit = quotientOfPair(pair, by);
                q.limbs[i] = (int) digit;
                over = pair - digit * by;
            }
            q.keep(a.used);
            return (int) over;
        }

        /** The pair has 64 bits without a sign, which Java's own division does not know. */
        private static long quotientOfPair(long pair, long by) {
            if (by <= 0) {
                return 0;
            }
            if (pair >= 0) {
                return pair / by;
            }
            long even = (pair >>> 1) / by << 1;
            return pair - even * by >= by ? even + 1 : even;
        }

        /** Takes the divisor from limbs j to j + count of row as often as it goes: how often. */
        private int quotientLimb(int[] row, int j, int count) {
            long high = row[j + count] & MASK;
            long next = row[j + count - 1] & MASK;
            long after = row[j + count - 2] & MASK;
            long top = divisor.limb(count - 1);
            long second = divisor.limb(count - 2);
            long pair = high << LIMB_BITS | next;
            long digit = high >= top ? MASK : quotientOfPair(pair, top);
            long over = pair - digit * top;
            for (int i = 0; i < 2 && over <= MASK; i++) {
                if (Long.compareUnsigned(digit * second, over << LIMB_BITS | after) <= 0) {
                    break;
                }
                digit--;
                over += top;
            }
            if (takeAway(row, j, count, digit)) {
                giveBack(row, j, count);
                digit--;
            }
            return (int) digit;
        }

        /** Whether it took too much. */
        private boolean takeAway(int[] row, int j, int count, long digit) {
            int[] taken = divisor.limbs;
            long carry = 0;
            long borrow = 0;
            for (int i = 0; i < count; i++) {
                carry += digit * (taken[i] & MASK);
                borrow += (row[i + j] & MASK) - (carry & MASK);
                row[i + j] = (int) borrow;
                carry >>>= LIMB_BITS;
                borrow >>= LIMB_BITS;
            }
            borrow += (row[j + count] & MASK) - carry;
            row[j + count] = (int) borrow;
            return borrow < 0;
        }

        private void giveBack(int[] row, int j, int count) {
            long carry = 0;
            for (int i = 0; i < count; i++) {
                carry += (row[i + j] & MASK) + divisor.limb(i);
                row[i + j] = (int) carry;
                carry >>>= LIMB_BITS;
            }
            row[j + count] += (int) carry;
        }
    }

    /** The greatest common divisor, by halves and differences or by quotients. */
    private static final class Divisors {
        private final Divider divider;
        private final Whole quotient;
        private Whole u;
        private Whole v;
        private Whole w;

        Divisors(int room, Divider divider) {
            this.divider = divider;
            quotient = new Whole(room);
            u = new Whole(room);
            v = new Whole(room);
            w = new Whole(room);
        }

        Whole byHalves(Whole a, Whole b) {
            begin(a, b);
            if (v.used == 0) {
                return u;
            }
            if (u.used == 0) {
                return v;
            }
            int shared = Math.min(u.lowZeros(), v.lowZeros());
            Sizes.shiftDown(u, u, u.lowZeros());
            Sizes.shiftDown(v, v, v.lowZeros());
            for (int turn = 0; turn < MANY; turn++) {
                int order = Sizes.order(u, v);
                if (order == 0) {
                    break;
                }
                if (order < 0) {
                    Whole less = u;
                    u = v;
                    v = less;
                }
                Sizes.difference(u, u, v);
                Sizes.shiftDown(u, u, u.lowZeros());
            }
            Sizes.shiftUp(u, u, shared);
            return u;
        }

        Whole byQuotients(Whole a, Whole b) {
            begin(a, b);
            for (int turn = 0; turn < MANY && v.used > 0; turn++) {
                divider.split(quotient, w, u, v);
                Whole spare = u;
                u = v;
                v = w;
                w = spare;
            }
            return u;
        }

        private void begin(Whole a, Whole b) {
            u.copy(a);
            u.below = false;
            v.copy(b);
            v.below = false;
        }
    }

    /** The greatest common divisor by Lehmer's way, with its steps counted. */
    private static final class Lehmer {
        int steps;
        private final Divider divider;
        private final Whole quotient;
        private Whole u;
        private Whole v;
        private Whole s;
        private Whole t;
        private long a;
        private long b;
        private long c;
        private long d;

        Lehmer(int room, Divider divider) {
            this.divider = divider;
            quotient = new Whole(room);
            u = new Whole(room);
            v = new Whole(room);
            s = new Whole(room);
            t = new Whole(room);
        }

        Whole divisor(Whole first, Whole second) {
            boolean ordered = Sizes.order(first, second) >= 0;
            u.copy(ordered ? first : second);
            u.below = false;
            v.copy(ordered ? second : first);
            v.below = false;
            steps = 0;
            for (int turn = 0; turn < MANY && v.used > 1; turn++) {
                findCofactors();
                if (b == 0) {
                    takeStep();
                } else {
                    combineBoth();
                }
            }
            if (v.used > 0 && u.used > 1) {
                takeStep();
            }
            if (v.used > 0) {
                u.become(divisorOfLimbs(u.limb(0), v.limb(0)));
            }
            return u;
        }

        /**
         * Follows Euclid's way on the highest 32 bits as long as the rest could not change a
         * quotient. While it does, u + a, u + b, v + c, v + d are not below 0 and the cofactors
         * stay less than 2^31, so that long holds all of it.
         */
        private void findCofactors() {
            int from = u.bits() - LIMB_BITS;
            long high = u.window(from);
            long low = v.window(from);
            a = 1;
            b = 0;
            c = 0;
            d = 1;
            for (int turn = 0; turn < MANY; turn++) {
                if (low + c == 0 || low + d == 0) {
                    return;
                }
                long q = (high + a) / (low + c);
                if (q != (high + b) / (low + d)) {
                    return;
                }
                long nextC = a - q * c;
                a = c;
                c = nextC;
                long nextD = b - q * d;
                b = d;
                d = nextD;
                long nextLow = high - q * low;
                high = low;
                low = nextLow;
            }
        }

        private void takeStep() {
            divider.split(quotient, s, u, v);
            Whole spare = u;
            u = v;
            v = s;
            s = spare;
            steps++;
        }

        private void combineBoth() {
            combine(s, a, b);
            combine(t, c, d);
            Whole spareU = u;
            Whole spareV = v;
            u = s;
            v = t;
            s = spareU;
            t = spareV;
        }

        /** x u + y v, of which it is known that it is neither below 0 nor longer than u. */
        private void combine(Whole to, long x, long y) {
            int count = Math.min(u.used, to.limbs.length);
            long carry = 0;
            for (int i = 0; i < count; i++) {
                carry += x * u.limb(i) + y * v.limb(i);
                to.limbs[i] = (int) carry;
                carry >>= LIMB_BITS;
            }
            to.keep(count);
        }

        private static int divisorOfLimbs(long greater, long less) {
            long r = greater;
            long s = less;
            for (int turn = 0; turn < MANY && s != 0; turn++) {
                long rest = r % s;
                r = s;
                s = rest;
            }
            return (int) r;
        }
    }

    /** The divisor r of two numbers, and the factors x and y that make it. */
    private static final class Factors {
        Whole r;
        Whole x;
        Whole y;
        private final Divider divider;
        private final Whole quotient;
        private final Whole product;
        private Whole s;
        private Whole rest;
        private Whole z;
        private Whole w;

        Factors(int room, Divider divider) {
            this.divider = divider;
            quotient = new Whole(room);
            product = new Whole(room);
            r = new Whole(room);
            s = new Whole(room);
            rest = new Whole(room);
            x = new Whole(room);
            z = new Whole(room);
            y = new Whole(room);
            w = new Whole(room);
        }

        void find(Whole a, Whole b) {
            r.copy(a);
            r.below = false;
            s.copy(b);
            s.below = false;
            x.become(1);
            y.become(0);
            z.become(0);
            w.become(1);
            // the signs of x, z and of y, w alternate: sizes and the turns' count are enough
            boolean odd = false;
            for (int turn = 0; turn < MANY && s.used > 0; turn++) {
                turnOnce();
                odd = !odd;
            }
            x.takeSign(odd != a.below);
            y.takeSign(odd == b.below);
        }

        private void turnOnce() {
            divider.split(quotient, rest, r, s);
            Whole spare = r;
            r = s;
            s = rest;
            rest = spare;
            addMultiple(x, z);
            spare = x;
            x = z;
            z = spare;
            addMultiple(y, w);
            spare = y;
            y = w;
            w = spare;
        }

        private void addMultiple(Whole to, Whole by) {
            Sizes.product(product, quotient, by);
            Sizes.sum(to, to, product);
        }
    }

    /** What goes by a modulus, which is above 0. */
    private static final class Residues {
        private final Divider divider;
        private final Whole quotient;
        private final Whole product;
        private final Whole base;
        private final Whole raised;
        private Whole u;
        private Whole v;
        private Whole w;

        Residues(int room, Divider divider) {
            this.divider = divider;
            quotient = new Whole(room);
            product = new Whole(room);
            base = new Whole(room);
            raised = new Whole(room);
            u = new Whole(room);
            v = new Whole(room);
            w = new Whole(room);
        }

        /** to becomes a MOD n, and is neither of them. */
        void reduce(Whole to, Whole a, Whole n) {
            divider.split(quotient, to, a, n);
            if (a.below && to.used > 0) {
                Sizes.difference(to, n, to);
            }
        }

        Whole raise(Whole a, Whole e, Whole n) {
            reduce(base, a, n);
            product.become(1);
            reduce(raised, product, n);
            if (e.used > 0) {
                raised.copy(base);
            }
            for (int i = e.bits() - 2; i >= 0; i--) {
                timesInto(raised, raised, n);
                if (e.hasBit(i)) {
                    timesInto(raised, base, n);
                }
            }
            return raised;
        }

        private void timesInto(Whole to, Whole by, Whole n) {
            Sizes.product(product, to, by);
            divider.split(quotient, to, product, n);
        }

        /** Jacobi's symbol of a over n, which is odd. */
        int symbol(Whole a, Whole n) {
            reduce(u, a, n);
            v.copy(n);
            int sign = 1;
            for (int turn = 0; turn < MANY && u.used > 0; turn++) {
                int zeros = u.lowZeros();
                Sizes.shiftDown(u, u, zeros);
                long eighth = v.limb(0) & 7;
                if ((zeros & 1) == 1 && (eighth == 3 || eighth == 5)) {
                    sign = -sign;
                }
                if ((u.limb(0) & 3) == 3 && (eighth & 3) == 3) {
                    sign = -sign;
                }
                divider.split(quotient, w, v, u);
                Whole spare = v;
                v = u;
                u = w;
                w = spare;
            }
            return v.bits() == 1 ? sign : 0;
        }
    }

    /** Whole roots of numbers that are not below 0. */
    private static final class Roots {
        /** Bits that are tried one by one, so that Newton's steps begin near the root. */
        private static final int TRIED_BITS = 8;

        private final Divider divider;
        private final Whole quotient;
        private final Whole rest;
        private final Whole product;
        private final Whole raised;
        private final Whole small;
        private final Whole one;
        private Whole guess;
        private Whole next;

        Roots(int room, Divider divider) {
            this.divider = divider;
            quotient = new Whole(room);
            rest = new Whole(room);
            product = new Whole(room);
            raised = new Whole(room);
            small = new Whole(room);
            one = new Whole(1);
            one.become(1);
            guess = new Whole(room);
            next = new Whole(room);
        }

        Whole find(Whole a, int k) {
            guess.become(0);
            if (a.used == 0 || k < 1) {
                return guess;
            }
            if (k == 1) {
                guess.copy(a);
                return guess;
            }
            int top = (a.bits() - 1) / k;
            int last = Math.max(0, top - TRIED_BITS + 1);
            for (int bit = top; bit >= last; bit--) {
                guessWithBit(bit);
                if (raiseUpTo(next, k, a)) {
                    guess.copy(next);
                }
            }
            if (last > 0) {
                // Newton's steps from a guess above the root fall until they reach it
                guessWithBit(last);
                guess.copy(next);
                boolean fell = true;
                for (int turn = 0; turn < MANY && fell; turn++) {
                    fell = stepDown(a, k);
                }
            }
            return guess;
        }

        private void guessWithBit(int bit) {
            Sizes.shiftUp(small, one, bit);
            Sizes.sum(next, guess, small);
        }

        /** The guess becomes ((k - 1) guess + a DIV guess^(k - 1)) DIV k, if that is less. */
        private boolean stepDown(Whole a, int k) {
            quotient.become(0);
            if (raiseUpTo(guess, k - 1, a)) {
                divider.split(quotient, rest, a, raised);
            }
            small.become(k - 1);
            Sizes.product(product, guess, small);
            Sizes.sum(product, product, quotient);
            small.become(k);
            divider.split(next, rest, product, small);
            if (Sizes.order(next, guess) >= 0) {
                return false;
            }
            Whole spare = guess;
            guess = next;
            next = spare;
            return true;
        }

        /** raised becomes base^k; false as soon as it is above the limit. */
        private boolean raiseUpTo(Whole base, int k, Whole limit) {
            raised.become(1);
            for (int i = LIMB_BITS - 1 - Integer.numberOfLeadingZeros(k); i >= 0; i--) {
                Sizes.product(product, raised, raised);
                raised.copy(product);
                if ((k >>> i & 1) == 1 && Sizes.order(raised, limit) <= 0) {
                    Sizes.product(product, raised, base);
                    raised.copy(product);
                }
                if (Sizes.order(raised, limit) > 0) {
                    return false;
                }
            }
            return true;
        }
    }

    /** Bytes that wait to be read as decimals. */
    private static final class Tape {
        int held;
        private final byte[] bytes;

        Tape() {
            bytes = new byte[MOST_TAPE];
        }

        void append(int four) {
            for (int bits = LIMB_BITS - 8; bits >= 0 && held < bytes.length; bits -= 8) {
                bytes[held] = (byte) (four >>> bits);
                held++;
            }
        }

        boolean isDecimal() {
            int from = firstDigit();
            for (int i = from; i < held; i++) {
                if (bytes[i] < '0' || bytes[i] > '9') {
                    return false;
                }
            }
            return from < held;
        }

        private boolean hasMinus() {
            return held > 0 && bytes[0] == '-';
        }

        private int firstDigit() {
            return hasMinus() ? 1 : 0;
        }

        /** The tape is decimal; false if the number has more limbs than width. */
        boolean parse(Whole value, int width) {
            value.become(0);
            int chunk = 0;
            int scale = 1;
            for (int i = firstDigit(); i < held; i++) {
                chunk = 10 * chunk + bytes[i] - '0';
                scale = 10 * scale;
                if (scale == CHUNK || i == held - 1) {
                    foldIn(value, scale, chunk);
                    chunk = 0;
                    scale = 1;
                }
                if (value.used > width) {
                    return false;
                }
            }
            value.takeSign(hasMinus());
            return true;
        }

        private static void foldIn(Whole value, int scale, int chunk) {
            long carry = chunk;
            int count = value.used;
            for (int i = 0; i < count; i++) {
                carry += scale * value.limb(i);
                value.limbs[i] = (int) carry;
                carry >>>= LIMB_BITS;
            }
            if (count < value.limbs.length) {
                value.limbs[count] = (int) carry;
                value.keep(count + 1);
            }
        }
    }

    /** Decimals that were written last. */
    private static final class Out {
        int held;
        final byte[] bytes;
        private final Whole left;

        Out(int width, int room) {
            // a limb makes less than ten digits; a sign and one to spare
            bytes = new byte[10 * Math.max(1, width) + 2];
            left = new Whole(room);
        }

        void print(Whole number) {
            held = 0;
            left.copy(number);
            for (int turn = 0; turn < bytes.length && left.used > 0; turn++) {
                appendChunk(takeChunk());
            }
            if (held == 0) {
                append('0');
            }
            if (number.below) {
                append('-');
            }
            turnRound();
        }

        /** The lowest nine digits, of which only the very highest chunk may have fewer. */
        private void appendChunk(int chunk) {
            int digits = chunk;
            for (int i = 0; i < CHUNK_DIGITS && (left.used > 0 || digits > 0); i++) {
                append('0' + digits % 10);
                digits /= 10;
            }
        }

        private int takeChunk() {
            long over = 0;
            for (int i = left.used - 1; i >= 0; i--) {
                long pair = over << LIMB_BITS | left.limb(i);
                left.limbs[i] = (int) (pair / CHUNK);
                over = pair % CHUNK;
            }
            left.keep(left.used);
            return (int) over;
        }

        private void append(int sign) {
            if (held < bytes.length) {
                bytes[held] = (byte) sign;
                held++;
            }
        }

        private void turnRound() {
            for (int i = 0, j = held - 1; i < j; i++, j--) {
                byte sign = bytes[i];
                bytes[i] = bytes[j];
                bytes[j] = sign;
            }
        }
    }
}
