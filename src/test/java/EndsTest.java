import java.lang.reflect.Method;
import java.lang.reflect.Modifier;
import java.util.ArrayList;
import java.util.Arrays;
import java.util.Comparator;
import java.util.List;

/**
 * Each call of the face with each of its arguments at the ends of its range and of int and long,
 * beside Model: once one argument after the other, once all of them at the ends of int.
 */
public final class EndsTest {
    private static final int MIN = Integer.MIN_VALUE, MAX = Integer.MAX_VALUE;
    private static final int[] NUMBERS = {MIN, MIN + 1, -1000000000, -32769, -1001, -1000, -129, -128, -101, -100,
        -15, -14, -13, -12, -11, -10, -5, -4, -3, -2, -1, 0, 1, 2, 3, 4, 5, 6, 7, 8, 9, 10, 11, 12, 13, 14, 15, 16,
        20, 21, 22, 23, 24, 25, 29, 30, 31, 32, 33, 34, 40, 41, 43, 44, 45, 49, 50, 51, 54, 55, 56, 59, 60, 61,
        63, 64, 65, 98, 99, 100, 101, 126, 127, 128, 129, 254, 255, 256, 257, 299, 300, 303, 304, 330, 333, 334,
        340, 399, 400, 433, 998, 999, 1000, 1001, 1999, 2000, 29999, 30000, 30999, 31000, 31001, 32768, 65536,
        1000000000, MAX - 1, MAX};
    private static final long[] LONGS = {Long.MIN_VALUE, Long.MIN_VALUE + 1, -4294967296L, -2147483649L,
        2147483648L, 4294967295L, 4294967296L, 1L << 40, Long.MAX_VALUE - 1, Long.MAX_VALUE};
    private static final int[] ENDS = {MIN, -1, 0, 1, MAX};

    /** Somewhat of everything, told as calls for both. */
    private static final Object[][] SOME = {
        {"person", 12}, {"person", 123}, {"person", 312}, {"person", 230}, {"mask"}, {"mask"}, {"mask"},
        {"mend", 0, 9, 1}, {"mend", 0, 4, 0}, {"mend", 1, 7, 75}, {"mend", 0, 3, 5}, {"mend", 0, 10, 4}, {"undo"},
        {"behind", 0, 0}, {"behind", 1, 6}, {"dance", 0}, {"bet", 0, 0}, {"image"}, {"dance", 1}, {"swap", 1},
        {"feed", 102}, {"feed", 43}, {"feed", 49}, {"law"}, {"feed", 100}, {"body", 0}, {"body", 1}, {"body", 5},
        {"body", 7}, {"keep", 0, 2}, {"row", 1, 0, 3}, {"put", 1, 1, 1L}, {"put", 1, 2, 2L}, {"row", 2, 1, 60},
        {"put", 2, 59, 7L}, {"row", 4, 0, 60}, {"put", 4, 1, 1L}, {"put", 4, 57, 2L}, {"row", 5, 4, 0},
        {"act", 2, 3, 5}};

    private EndsTest() {
    }

    public static void main(String[] args) throws ReflectiveOperationException {
        List<Method> face = new ArrayList<>();
        for (Method each : BehindTheMask.class.getDeclaredMethods()) {
            if (Modifier.isPublic(each.getModifiers())) {
                face.add(each);
            }
        }
        face.sort(Comparator.comparing(Method::getName));
        Due.is("calls of the face", face.size(), 46);
        for (Method call : face) {
            oneAfterTheOther(call, new Object[0][]);
            oneAfterTheOther(call, SOME);
            allAtOnce(call, new Object[0][]);
            allAtOnce(call, SOME);
        }
        Due.end();
    }

    private static Object number(Class<?> type, long v) {
        if (type == long.class) {
            return v;
        }
        return (int) v;
    }

    /** Every other argument is 0, then 1, then 4. */
    private static void oneAfterTheOther(Method call, Object[][] ahead) throws ReflectiveOperationException {
        Class<?>[] types = call.getParameterTypes();
        for (int others : new int[] {0, 1, 4}) {
            Object[] args = new Object[types.length];
            for (int i = 0; i < args.length; i++) {
                Arrays.setAll(args, k -> number(types[k], others));
                for (int v : NUMBERS) {
                    args[i] = number(types[i], v);
                    compare(call, args, ahead);
                }
                for (long v : types[i] == long.class ? LONGS : new long[0]) {
                    args[i] = v;
                    compare(call, args, ahead);
                }
            }
        }
    }

    private static void allAtOnce(Method call, Object[][] ahead) throws ReflectiveOperationException {
        Class<?>[] types = call.getParameterTypes();
        int all = 1;
        for (int i = 0; i < types.length; i++) {
            all *= ENDS.length;
        }
        for (int k = 0; k < all; k++) {
            Object[] args = new Object[types.length];
            int left = k;
            for (int i = 0; i < args.length; i++) {
                args[i] = number(types[i], ENDS[left % ENDS.length]);
                left /= ENDS.length;
            }
            compare(call, args, ahead);
        }
    }

    private static void compare(Method call, Object[] args, Object[][] ahead) throws ReflectiveOperationException {
        BehindTheMask x = new BehindTheMask();
        Model y = new Model();
        for (Object[] each : ahead) {
            Object[] with = Arrays.copyOfRange(each, 1, each.length);
            ask(x, (String) each[0], with);
            ask(y, (String) each[0], with);
        }
        String name = call.getName() + Arrays.toString(args) + " behind " + ahead.length + " calls";
        Due.is(name, ask(x, call.getName(), args), ask(y, call.getName(), args));
    }

    private static long ask(Object whom, String name, Object[] args) throws ReflectiveOperationException {
        Class<?>[] types = new Class<?>[args.length];
        for (int i = 0; i < args.length; i++) {
            types[i] = args[i] instanceof Long ? long.class : int.class;
        }
        Method method = whom.getClass().getDeclaredMethod(name, types);
        return ((Number) method.invoke(whom, args)).longValue();
    }
}
