import java.lang.reflect.Array;
import java.lang.reflect.Field;
import java.lang.reflect.Modifier;
import java.util.ArrayDeque;
import java.util.Collections;
import java.util.IdentityHashMap;
import java.util.NoSuchElementException;
import java.util.Set;

/**
 * All calls of one run live in one room: a mill is made whole by its constructor, and no call
 * makes it hold another object. Also what the README says of its example.
 */
public final class GcdMillRoom {
    private static final int MOST_OBJECTS = 150;
    private static final int MOST_ELEMENTS = 8000;
    /** A turn makes some calls: all turns together stay under the 512 that an object is for. */
    private static final int TURNS = 400;

    private static int wrong = 0;

    public static void main(String[] args) throws IllegalAccessException {
        for (int width : new int[] {1, 2, 8, 40}) {
            for (int registers : new int[] {1, 3, 16}) {
                holdsTheSame(registers, width);
            }
        }
        example();
        System.out.println(wrong == 0 ? "the room is as due" : wrong + " answers are not as due");
        if (wrong != 0) {
            System.exit(1);
        }
    }

    private static void holdsTheSame(int registers, int width) throws IllegalAccessException {
        String name = "GcdMill(" + registers + ", " + width + ")";
        GcdMill mill = new GcdMill(registers, width);
        Set<Object> atFirst = held(mill);
        due(name + " holds few objects: " + atFirst.size(), atFirst.size() <= MOST_OBJECTS ? 1 : 0, 1);
        int elements = elements(atFirst);
        due(name + " holds few elements: " + elements, elements <= MOST_ELEMENTS ? 1 : 0, 1);
        for (int turn = 0; turn < TURNS; turn++) {
            callOne(mill, registers, turn);
        }
        Set<Object> then = held(mill);
        due(name + " holds so many objects then", then.size(), atFirst.size());
        int others = 0;
        for (Object object : then) {
            others += atFirst.contains(object) ? 0 : 1;
        }
        due(name + " holds so many others then", others, 0);
    }

    /** The mill and every object and array that it leads to, each once. */
    private static Set<Object> held(GcdMill mill) throws IllegalAccessException {
        Set<Object> seen = Collections.newSetFromMap(new IdentityHashMap<>());
        ArrayDeque<Object> open = new ArrayDeque<>();
        seen.add(mill);
        open.add(mill);
        while (!open.isEmpty()) {
            for (Object next : parts(open.remove())) {
                if (next != null && seen.add(next)) {
                    open.add(next);
                }
            }
        }
        return seen;
    }

    private static Object[] parts(Object object) throws IllegalAccessException {
        if (object instanceof Object[] row) {
            return row;
        }
        if (object.getClass().isArray()) {
            return new Object[0];
        }
        Field[] fields = object.getClass().getDeclaredFields();
        Object[] parts = new Object[fields.length];
        for (int i = 0; i < fields.length; i++) {
            if (!Modifier.isStatic(fields[i].getModifiers()) && !fields[i].getType().isPrimitive()) {
                fields[i].setAccessible(true);
                parts[i] = fields[i].get(object);
            }
        }
        return parts;
    }

    private static int elements(Set<Object> objects) {
        int count = 0;
        for (Object object : objects) {
            if (object.getClass().isArray()) {
                count += Array.getLength(object);
                continue;
            }
            for (Field field : object.getClass().getDeclaredFields()) {
                count += Modifier.isStatic(field.getModifiers()) ? 0 : 1;
            }
        }
        return count;
    }

    private static void callOne(GcdMill mill, int registers, int turn) {
        int a = turn / 29 % registers;
        int b = (turn / 29 + 1) % registers;
        int c = (turn / 29 + 2) % registers;
        int some = 0x9E3779B9 * (turn + 1);
        switch (turn % 29) {
            case 0: case 1: case 2: mill.pushLimb(a, some); break;
            case 3: mill.pushLimb(b, some); break;
            case 4: mill.pushLimb(c, some); break;
            case 5: mill.negate(c, a); break;
            case 6: mill.add(c, a, b); break;
            case 7: mill.subtract(b, c, a); break;
            case 8: mill.multiply(c, a, b); break;
            case 9: mill.divide(c, b, c, some > 0 ? a : b); break;
            case 10: mill.shift(a, a, turn % 64 - 30); break;
            case 11: mill.pushLimb(b, mill.compare(a, b) + some); break;
            case 12: mill.gcdBinary(c, a, b); break;
            case 13: mill.gcdEuclid(c, a, b); break;
            case 14: mill.gcdLehmer(c, a, b); break;
            case 15: mill.bezout(a, b, c, a, b); break;
            case 16: mill.inverse(c, a, b); break;
            case 17: mill.power(c, a, b, a); break;
            case 18: mill.isqrt(c, a); break;
            case 19: mill.root(c, a, 3); break;
            case 20: mill.isSquare(a); break;
            case 21: mill.jacobi(a, b); break;
            case 22: mill.feed(some | 0x30303030, 0x31323334, 0x35363738, 0x39303132, 0x33343536); break;
            case 23: mill.end(20); break;
            case 24: mill.read(a); break;
            case 25: mill.write(b); break;
            case 26: mill.clear(c); break;
            case 27: mill.octet(mill.count(3) - 1 + mill.limbAt(a, mill.length(b)) + mill.sign(c)); break;
            default: none(mill); break;
        }
    }

    private static void none(GcdMill mill) {
        boolean threw = false;
        try {
            mill.write(mill.lastSteps() < 0 ? 0 : -1);
        } catch (NoSuchElementException e) {
            threw = true;
        }
        due("write(-1) throws", threw ? 1 : 0, 1);
    }

    private static void example() {
        GcdMill mill = new GcdMill(4, 8);
        due("pushLimb(0, 240)", mill.pushLimb(0, 240), 0);
        due("pushLimb(1, 46)", mill.pushLimb(1, 46), 0);
        due("gcdLehmer(2, 0, 1)", mill.gcdLehmer(2, 0, 1), 0);
        due("limbAt(2, 0)", mill.limbAt(2, 0), 2);
        due("feed", mill.feed(0x2D343200, 0, 0, 0, 0), 20);
        due("end(3)", mill.end(3) ? 1 : 0, 1);
        due("read(3)", mill.read(3), 0);
        due("sign(3)", mill.sign(3), -1);
        due("limbAt(3, 0)", mill.limbAt(3, 0), 42);
        due("write(3)", mill.write(3), 3);
        due("octet(0)", mill.octet(0), '-');
        due("octet(1)", mill.octet(1), '4');
        due("octet(2)", mill.octet(2), '2');
    }

    private static void due(String what, long got, long want) {
        if (got != want) {
            wrong++;
            System.out.println(what + " answered " + got + ", due is " + want);
        }
    }
}
