import java.lang.reflect.Method;
import java.lang.reflect.Modifier;
import java.util.ArrayList;
import java.util.Arrays;
import java.util.Comparator;
import java.util.List;
import java.util.Random;

/** Calls with any arguments, far off and at the edges, in any state: none may throw, each answer is to be that of Model. */
public final class AnyTest {
    private static final Due DUE = new Due("AnyTest");
    private static final int RUNS = 500;
    private static final int CALLS = 512;
    private static final int[] EDGES = {Integer.MIN_VALUE, Integer.MIN_VALUE + 1, Integer.MIN_VALUE + 10, -100, -14, -2, -1, 0, 1, 2, 3, 4, 5,
        6, 7, 8, 9, 10, 11, 14, 15, 16, 19, 20, 21, 24, 25, 26, 40, 41, 59, 60, 61, 99, 100, 101, 127, 128, 999, 1000, 9999, 10000,
        Integer.MAX_VALUE - 1, Integer.MAX_VALUE};
    private static final long[] LONG_EDGES = {Long.MIN_VALUE, Long.MAX_VALUE, 1L << 32, (1L << 32) + 7, -(1L << 31) - 1, 1L << 31, 128, -129,
        255, 32768, -32769, 65535, 0, 1, -1};
    private final Random random;
    private final SqueakShop shop = new SqueakShop();
    private final Model model = new Model();

    private AnyTest(int seed) {
        random = new Random(seed);
    }

    public static void main(String[] args) throws ReflectiveOperationException {
        List<Method> calls = new ArrayList<>();
        List<Method> seconds = new ArrayList<>();
        for (Method method : SqueakShop.class.getDeclaredMethods()) {
            if (Modifier.isPublic(method.getModifiers())) {
                calls.add(method);
            }
        }
        calls.sort(Comparator.comparing(Method::getName));
        for (Method method : calls) {
            seconds.add(Model.class.getDeclaredMethod(method.getName(), method.getParameterTypes()));
        }
        DUE.is("methods", calls.size(), 38);
        for (int seed = 0; seed < RUNS && DUE.wrong() < 10; seed++) {
            DUE.part("run " + seed);
            new AnyTest(seed).goes(calls, seconds);
        }
        DUE.end();
    }

    private void goes(List<Method> calls, List<Method> seconds) throws ReflectiveOperationException {
        int sounds = random.nextInt(7);
        for (int i = 0; i < sounds; i++) {
            int kind = random.nextInt(7);
            int loud = random.nextInt(100);
            DUE.is("sound", shop.sound(kind, i, loud, i % 5), model.sound(kind, i, loud, i % 5));
        }
        for (int i = sounds; i < CALLS && DUE.wrong() < 10; i++) {
            int which = random.nextInt(calls.size());
            boolean isDear = seconds.get(which).getName().equals("shared") || seconds.get(which).getName().equals("fewest");
            if (!isDear || random.nextInt(8) == 0) {
                call(calls.get(which), seconds.get(which));
            }
        }
    }

    private void call(Method call, Method second) throws ReflectiveOperationException {
        Class<?>[] types = call.getParameterTypes();
        Object[] given = new Object[types.length];
        boolean isMild = random.nextBoolean();
        for (int i = 0; i < given.length; i++) {
            if (types[i] == long.class) {
                given[i] = LONG_EDGES[random.nextInt(LONG_EDGES.length)];
            } else {
                given[i] = isMild ? random.nextInt(8) - 1 : EDGES[random.nextInt(EDGES.length)];
            }
        }
        Number due = (Number) second.invoke(model, given);
        Number answer = (Number) call.invoke(shop, given);
        DUE.is(call.getName() + Arrays.toString(given), answer.longValue(), due.longValue());
    }
}
