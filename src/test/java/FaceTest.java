import java.lang.reflect.Field;
import java.lang.reflect.InvocationTargetException;
import java.lang.reflect.Method;
import java.lang.reflect.Modifier;
import java.util.ArrayList;
import java.util.Arrays;
import java.util.HashSet;
import java.util.List;
import java.util.Set;
import java.util.TreeSet;

/** The face of the class is that of the document, and any call throws no more than it says. */
public final class FaceTest {
    private static final String[] FACE = {
        "int clear()",
        "int addNode(boolean) IllegalStateException",
        "int addCorridor(int,int,int,int) IndexOutOfBoundsException IllegalArgumentException IllegalStateException",
        "int setWind(int,int) IndexOutOfBoundsException IllegalArgumentException",
        "int addFence(int,int,int,int) IndexOutOfBoundsException IllegalArgumentException IllegalStateException",
        "int removeFence(int) IndexOutOfBoundsException",
        "int fence(int,int) IndexOutOfBoundsException IllegalArgumentException",
        "int corridor(int,int) IndexOutOfBoundsException IllegalArgumentException",
        "boolean isPad(int) IndexOutOfBoundsException",
        "int reserve(int) IndexOutOfBoundsException NoSuchElementException",
        "int ticksBetween(int,int) IndexOutOfBoundsException NoSuchElementException",
        "int count(int) IllegalArgumentException",
        "int addDrone(int,int) IndexOutOfBoundsException IllegalArgumentException IllegalStateException",
        "int drone(int,int) IndexOutOfBoundsException IllegalArgumentException",
        "int plan(int,int) IndexOutOfBoundsException UnsupportedOperationException",
        "int arrival(int,int) IndexOutOfBoundsException NoSuchElementException",
        "int planEnergy(int,int) IndexOutOfBoundsException NoSuchElementException",
        "int leg(int,int,int) IndexOutOfBoundsException IllegalArgumentException",
        "int cancel(int) IndexOutOfBoundsException",
        "int drain(int,int) IndexOutOfBoundsException IllegalArgumentException IllegalStateException",
        "int struck()",
        "int reroute()",
        "int nearestPad(int) IndexOutOfBoundsException NoSuchElementException",
        "int low()",
        "int reason() NoSuchElementException",
        "int advance(int) IllegalArgumentException IllegalStateException",
        "int placeAfter(int,int) IndexOutOfBoundsException IllegalArgumentException",
        "int pairs(boolean)",
        "int uses(int,int) IndexOutOfBoundsException IllegalArgumentException",
        "int account(int,int) IndexOutOfBoundsException IllegalArgumentException",
        "int audit()",
        "double flyingShare() ArithmeticException",
        "int busiest() NoSuchElementException",
        "int append(char) IllegalArgumentException IllegalStateException",
        "int read() IllegalArgumentException IllegalStateException",
        "int errorPosition() NoSuchElementException",
        "int describe(int,int) IndexOutOfBoundsException NoSuchElementException",
        "int undo() NoSuchElementException",
        "int save()",
        "int restore() IllegalStateException"};
    private static final int[] EDGES = {Integer.MIN_VALUE, Integer.MIN_VALUE + 1, -10001, -10, -9, -2, -1, 10, 11, 16,
        31, 32, 33, 39, 40, 41, 60, 61, 100, 199, 200, 201, 9999, 10000, 10001, Integer.MAX_VALUE - 1,
        Integer.MAX_VALUE};

    private static long row = 4711;

    public static void main(String[] arguments) throws IllegalAccessException {
        faceIsThatOfTheDocument();
        nothingElseIsSeen();
        anyCalls();
        Checks.end();
    }

    private static void faceIsThatOfTheDocument() {
        Set<String> seen = new TreeSet<>();
        for (Method method : DroneCorridors.class.getDeclaredMethods()) {
            if (Modifier.isPublic(method.getModifiers())) {
                seen.add(textOf(method));
            }
        }
        Set<String> want = new TreeSet<>(Arrays.asList(FACE));
        Checks.sameLook("the face", String.join("\n", seen), String.join("\n", want));
        Checks.same("the class", DroneCorridors.class.getModifiers(), Modifier.PUBLIC | Modifier.FINAL);
        Checks.same("constructors", DroneCorridors.class.getConstructors().length, 1);
        Checks.same("the constructor's parameters", DroneCorridors.class.getConstructors()[0].getParameterCount(), 0);
    }

    private static String textOf(Method method) {
        List<String> kinds = new ArrayList<>();
        for (Class<?> kind : method.getParameterTypes()) {
            kinds.add(kind.getName());
        }
        StringBuilder text = new StringBuilder(method.getReturnType().getName());
        text.append(' ').append(method.getName()).append('(').append(String.join(",", kinds)).append(')');
        for (Class<?> thrown : method.getExceptionTypes()) {
            text.append(' ').append(thrown.getSimpleName());
        }
        return text.toString();
    }

    private static void nothingElseIsSeen() {
        Set<String> names = new HashSet<>();
        for (Method method : DroneCorridors.class.getDeclaredMethods()) {
            if (Modifier.isPublic(method.getModifiers())) {
                names.add(method.getName());
            }
        }
        for (Method method : DroneCorridors.class.getDeclaredMethods()) {
            boolean isPublic = Modifier.isPublic(method.getModifiers());
            Checks.isTrue(method + " is public or private", isPublic || Modifier.isPrivate(method.getModifiers()));
            Checks.isTrue(method + " has a name of its own", isPublic || !names.contains(method.getName()));
        }
        for (Field field : DroneCorridors.class.getDeclaredFields()) {
            Checks.isTrue(field + " is private", Modifier.isPrivate(field.getModifiers()));
            checkStatic(field);
        }
        for (Class<?> inside : DroneCorridors.class.getDeclaredClasses()) {
            Checks.isTrue(inside + " is static", Modifier.isStatic(inside.getModifiers()));
            Checks.isTrue(inside + " is not seen",
                    !Modifier.isPublic(inside.getModifiers()) && !Modifier.isProtected(inside.getModifiers()));
            for (Field field : inside.getDeclaredFields()) {
                checkStatic(field);
            }
        }
    }

    private static void checkStatic(Field field) {
        boolean isStatic = Modifier.isStatic(field.getModifiers());
        Checks.isTrue(field + " is no static state", !isStatic || Modifier.isFinal(field.getModifiers()));
    }

    private static int next(int bound) {
        row = row * 6364136223846793005L + 1442695040888963407L;
        return (int) ((row >>> 33) % bound);
    }

    private static Object argumentOf(Class<?> kind) {
        if (kind == boolean.class) {
            return next(2) == 0;
        }
        if (kind == char.class) {
            return next(12) == 0 ? (char) next(65536) : "np;c-*dt0123;1;".charAt(next(15));
        }
        int size = next(20);
        return size == 0 ? EDGES[next(EDGES.length)] : size < 4 ? next(42) - 1 : next(5);
    }

    /** Calls with any arguments in any states: each one answers, or throws what its signature says. */
    private static void anyCalls() throws IllegalAccessException {
        Method[] methods = DroneCorridors.class.getDeclaredMethods();
        Arrays.sort(methods, (one, other) -> one.getName().compareTo(other.getName()));
        for (int run = 0; run < 400 && Checks.wrong() == 0; run++) {
            DroneCorridors x = new DroneCorridors();
            int seldom = next(60);
            for (int call = 0; call < 512; call++) {
                Method method = methods[next(methods.length)];
                boolean isRare = method.getName().equals("clear") && next(60) > 0
                        || method.getName().equals("undo") && next(seldom + 1) > 0;
                if (Modifier.isPublic(method.getModifiers()) && !isRare) {
                    oneCall(x, method);
                }
            }
        }
    }

    private static void oneCall(DroneCorridors x, Method method) throws IllegalAccessException {
        Class<?>[] kinds = method.getParameterTypes();
        Object[] values = new Object[kinds.length];
        for (int i = 0; i < kinds.length; i++) {
            values[i] = argumentOf(kinds[i]);
        }
        String before = Checks.look(x);
        try {
            method.invoke(x, values);
        } catch (InvocationTargetException e) {
            boolean isTold = Arrays.asList(method.getExceptionTypes()).contains(e.getCause().getClass());
            Checks.isTrue(method.getName() + Arrays.toString(values) + " throws what is told, not " + e.getCause(), isTold);
            Checks.sameLook(method.getName() + Arrays.toString(values) + " that throws", Checks.look(x), before);
        }
    }
}
