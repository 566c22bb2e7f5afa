import java.lang.reflect.InvocationTargetException;
import java.lang.reflect.Method;

/**
 * Every call with numbers at and beyond the edges, on a new object and on one that is full: compared with PlainTime,
 * so nothing but the document's exception may come out.
 */
public final class EdgesTest {
    private static final Checks CHECKS = new Checks("EdgesTest");
    private static final int[] EDGES = {Integer.MIN_VALUE, Integer.MIN_VALUE + 1, -721, -720, -601, -600, -13, -12, -2, -1, 0,
        1, 2, 3, 5, 6, 7, 8, 12, 13, 15, 16, 19, 20, 30, 31, 39, 40, 41, 59, 60, 61, 96, 97, 100, 101, 399, 400, 600, 601,
        720, 721, 1439, 1440, 575279, 575280, 575969, 575970, 575999, 576000, 576719, 576720, Integer.MAX_VALUE - 1,
        Integer.MAX_VALUE};

    private OneTime x = new OneTime();
    private PlainTime plain = new PlainTime();

    public static void main(String[] args) throws ReflectiveOperationException {
        for (Method method : OneTime.class.getDeclaredMethods()) {
            if (java.lang.reflect.Modifier.isPublic(method.getModifiers())) {
                for (int filling = 0; filling < 3; filling++) {
                    tryEdges(method, filling);
                }
            }
        }
        CHECKS.finish();
    }

    private static void tryEdges(Method method, int filling) throws ReflectiveOperationException {
        int n = method.getParameterCount();
        for (int base = 0; base < 2; base++) {
            for (int place = 0; place < Math.max(n, 1); place++) {
                EdgesTest test = new EdgesTest();
                test.fill(filling);
                for (int edge : EDGES) {
                    int[] numbers = new int[n];
                    java.util.Arrays.fill(numbers, base);
                    if (n > 0) {
                        numbers[place] = edge;
                    }
                    test.compare(method, numbers);
                }
                test.compareAll();
            }
        }
        EdgesTest test = new EdgesTest();
        test.fill(filling);
        for (int edge : EDGES) {
            int[] numbers = new int[n];
            java.util.Arrays.fill(numbers, edge);
            test.compare(method, numbers);
        }
        test.compareAll();
    }

    /** 0 leaves the object new, 1 puts a little in, 2 as much as it takes. */
    private void fill(int filling) throws ReflectiveOperationException {
        int part = filling == 2 ? 1 : 8;
        for (int i = 0; filling > 0 && i <= 60 / part; i++) {
            if (i <= 16 / part) {
                call("town", i * 90 - 720);
            }
            call("clock", i % (1 + 15 / part), i * 20 % 400, i % 3, i % 7);
        }
        for (int i = 0; filling > 0 && i <= 20 / part; i++) {
            call("sign", 'a' << 24 | '=' << 16 | 'z' << 8 | '-');
            call("sign", '1' << 24 | '2' << 16 | ';' << 8 | 'f');
            call("sign", '=' << 24 | 'l' << 16 | '+' << 8 | '9');
            call("law", i % 2, i * 20 % 400);
        }
        for (int i = 0; filling > 0 && i <= 7; i++) {
            call("station", i % 2, i * 20 + 1);
        }
        for (int i = 0; filling > 0 && i <= 7; i++) {
            call("train", i % 2, 1 + i / 2, 700 + i, i);
            call("tower", i % 2, i * 50, i * 170 - 600);
        }
        for (int i = 0; filling > 0 && i < 24; i++) {
            call("sign", i);
        }
        call("round", 0, 1000);
    }

    private void call(String name, int... numbers) throws ReflectiveOperationException {
        for (Method method : OneTime.class.getDeclaredMethods()) {
            if (method.getName().equals(name)) {
                compare(method, numbers);
            }
        }
    }

    /** What the calls have left behind. */
    private void compareAll() throws ReflectiveOperationException {
        for (int what = 0; what <= 7; what++) {
            call("count", what);
        }
        for (int i = 0; i <= 8; i++) {
            call("row", i);
            call("read", i, 100000);
            call("judged", i, 0, 1000);
            call("leaves", i, 1);
            call("error", i, 575999);
        }
    }

    private void compare(Method method, int[] numbers) throws ReflectiveOperationException {
        Object[] arguments = new Object[numbers.length];
        for (int i = 0; i < numbers.length; i++) {
            boolean truth = method.getParameterTypes()[i] == boolean.class;
            arguments[i] = truth ? (Object) (numbers[i] == 1) : (Object) numbers[i];
        }
        String got = answer(x, method, arguments);
        String want = answer(plain, PlainTime.class.getDeclaredMethod(method.getName(), method.getParameterTypes()), arguments);
        String call = method.getName() + java.util.Arrays.toString(numbers);
        CHECKS.due(call + " answered " + got + " for " + want, got.equals(want), true);
    }

    private static String answer(Object of, Method method, Object[] arguments) throws ReflectiveOperationException {
        try {
            return String.valueOf(method.invoke(of, arguments));
        } catch (InvocationTargetException thrown) {
            return thrown.getCause().getClass().getName();
        }
    }
}
