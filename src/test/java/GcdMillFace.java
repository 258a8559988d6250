import java.lang.reflect.Field;
import java.lang.reflect.Method;
import java.lang.reflect.Modifier;
import java.util.Arrays;
import java.util.Set;
import java.util.TreeSet;

/** The class has the document's face and no other member that is not private. */
public final class GcdMillFace {
    private static final String[] METHODS = {
        "int pushLimb(int, int)", "boolean clear(int)", "int negate(int, int)", "int add(int, int, int)",
        "int subtract(int, int, int)", "int multiply(int, int, int)", "int divide(int, int, int, int)",
        "int shift(int, int, int)", "int compare(int, int)", "int gcdBinary(int, int, int)",
        "int gcdEuclid(int, int, int)", "int gcdLehmer(int, int, int)", "int lastSteps()",
        "int bezout(int, int, int, int, int)", "int inverse(int, int, int)", "int power(int, int, int, int)",
        "int isqrt(int, int)", "int root(int, int, int)", "int isSquare(int)", "int jacobi(int, int)",
        "int sign(int) throws NoSuchElementException", "int length(int) throws NoSuchElementException",
        "int limbAt(int, int) throws NoSuchElementException", "int feed(int, int, int, int, int)",
        "boolean end(int)", "int read(int)", "int write(int) throws NoSuchElementException",
        "int octet(int)", "int count(int)",
    };

    private static int wrong = 0;

    public static void main(String[] args) throws Exception {
        Class<?> face = GcdMill.class;
        due("modifiers", Modifier.toString(face.getModifiers()), "public final");
        due("constructors", face.getDeclaredConstructors().length + " " + face.getConstructor(int.class, int.class),
                "1 public GcdMill(int,int)");
        Set<String> seen = new TreeSet<>();
        Set<String> names = new TreeSet<>();
        for (Method method : face.getDeclaredMethods()) {
            if (!Modifier.isPrivate(method.getModifiers())) {
                seen.add(describe(method));
                names.add(method.getName());
            }
        }
        due("methods", seen.toString(), new TreeSet<>(Arrays.asList(METHODS)).toString());
        for (Method method : face.getDeclaredMethods()) {
            if (Modifier.isPrivate(method.getModifiers()) && names.contains(method.getName())) {
                due("private method", method.getName(), "a name that no public method has");
            }
        }
        for (Field field : face.getDeclaredFields()) {
            if (!Modifier.isPrivate(field.getModifiers())) {
                due("field", field.toString(), "public static final int GcdMill.NONE");
            }
            if (Modifier.isStatic(field.getModifiers())) {
                due("static field " + field.getName() + " final", Modifier.isFinal(field.getModifiers()) + "", "true");
            }
        }
        for (Class<?> inside : face.getDeclaredClasses()) {
            due(inside.getName() + " static", Modifier.isStatic(inside.getModifiers()) + "", "true");
        }
        due("NONE", GcdMill.NONE + "", "-1");
        System.out.println(wrong == 0 ? "the face is as due" : wrong + " parts of the face are not as due");
        if (wrong != 0) {
            System.exit(1);
        }
    }

    private static String describe(Method method) {
        StringBuilder text = new StringBuilder();
        text.append(method.getReturnType()).append(' ').append(method.getName()).append('(');
        Class<?>[] taken = method.getParameterTypes();
        for (int i = 0; i < taken.length; i++) {
            text.append(i == 0 ? "" : ", ").append(taken[i]);
        }
        text.append(')');
        for (Class<?> thrown : method.getExceptionTypes()) {
            text.append(" throws ").append(thrown.getSimpleName());
        }
        return text.toString();
    }

    private static void due(String what, String got, String want) {
        if (!got.equals(want)) {
            wrong++;
            System.out.println(what + " is " + got + ", due is " + want);
        }
    }
}
