import java.lang.reflect.InvocationTargetException;
import java.lang.reflect.Method;
import java.lang.reflect.Modifier;
import java.util.ArrayList;
import java.util.Arrays;
import java.util.Comparator;
import java.util.List;

/**
 * Calls of any kind with any arguments: none throws, the same calls give the same answers, and a
 * refused call changes nothing that can be asked for.
 */
public final class WildCallsTest {
    private static final int[] EDGES = {Integer.MIN_VALUE, -2, -1, 0, 1, 2, 3, 4, 5, 6, 7, 8, 10,
        12, 13, 15, 16, 40, 60, 61, 99, 100, 160, 161, 200, 201, 704, 999, 1000, 9999, 99999,
        100000, Integer.MAX_VALUE};

    private WildCallsTest() {
    }

    public static void main(String[] args) throws IllegalAccessException {
        List<Method> methods = new ArrayList<>();
        for (Method method : RoadThatSings.class.getDeclaredMethods()) {
            if (Modifier.isPublic(method.getModifiers())) {
                methods.add(method);
            }
        }
        methods.sort(Comparator.comparing(Method::getName));
        Due.about("wild calls");
        Draws draws = new Draws(512);
        for (int run = 0; run < 400; run++) {
            RoadThatSings x = new RoadThatSings();
            RoadThatSings twin = new RoadThatSings();
            for (int call = 0; call < 512; call++) {
                Method method = methods.get(draws.below(methods.size()));
                Object[] with = arguments(method, draws);
                long before = state(x);
                long refusals = refusals(x);
                long answer = answered(x, method, with);
                Due.due("the same " + method.getName(), answered(twin, method, with), answer);
                if (refusals(x) != refusals) {
                    Due.due("refusals of " + method.getName(), refusals(x), refusals + 1);
                    Due.due("state behind a refused " + method.getName(), state(x), before);
                }
            }
        }
        Due.end("WildCallsTest");
    }

    private static Object[] arguments(Method method, Draws draws) {
        Class<?>[] types = method.getParameterTypes();
        Object[] with = new Object[types.length];
        int tame = draws.below(8);
        for (int i = 0; i < types.length; i++) {
            int v = tame != 0 ? draws.from(0, tame) : EDGES[draws.below(EDGES.length)];
            if (types[i] == long.class) {
                with[i] = draws.below(3) == 0 ? draws.wide() : (long) v;
            } else {
                with[i] = v;
            }
        }
        return with;
    }

    private static long answered(RoadThatSings x, Method method, Object[] with)
        throws IllegalAccessException {
        try {
            return ((Number) method.invoke(x, with)).longValue();
        } catch (InvocationTargetException e) {
            Due.due(method.getName() + Arrays.toString(with) + " threw " + e.getCause(),
                1, 0);
            return 0;
        }
    }

    private static long refusals(RoadThatSings x) {
        long all = 0;
        for (int what = 11; what <= 17; what++) {
            all += x.status(what);
        }
        return all;
    }

    /** A number that differs when an answer of what there is differs; asking changes nothing. */
    private static long state(RoadThatSings x) {
        long sum = 0;
        for (int what = 0; what <= 6; what++) {
            sum = sum * 31 + x.status(what);
        }
        for (int s = 0; s < 8; s++) {
            sum = sum * 31 + x.holds(s);
            for (int i = 0; i < 160; i++) {
                sum = sum * 31 + x.element(s, i);
            }
        }
        for (int i = 0; i < x.status(0); i++) {
            for (int what = 0; what < 4; what++) {
                sum = sum * 31 + x.stretchOf(i, what);
            }
        }
        for (int i = 0; i < x.status(1); i++) {
            for (int what = 0; what < 3; what++) {
                sum = sum * 31 + x.carOf(i, what);
            }
        }
        for (int t = 0; t < x.status(2); t++) {
            sum = sum * 31 + x.noteOf(t, -1, 0);
            for (int i = 0; i < x.noteOf(t, -1, 0); i++) {
                sum = sum * 31 + x.noteOf(t, i, 0) * 17 + x.noteOf(t, i, 1);
            }
        }
        return sum * 31 + x.trace(0) + x.trace(1);
    }
}
