import java.lang.reflect.InvocationTargetException;
import java.lang.reflect.Method;
import java.lang.reflect.Modifier;

/** Rule 7 of LANGUAGE.md: each method, from each start, with arguments of all kinds. */
final class AnyArgumentTests {
    private static final int[] MANY = {Integer.MIN_VALUE, -1004, -4, -3, -1, 0, 1, 2, 3, 5, 6, 12,
        24, 71, 72, 99, 100, 1 << 30, Integer.MAX_VALUE};
    private static final int[] FEW = {Integer.MIN_VALUE, 0, 1, 3, Integer.MAX_VALUE};
    private static final int CALLS = 300;

    private AnyArgumentTests() {
    }

    static void runAll(Tests tests) {
        for (Method method : GarmentMarker.class.getDeclaredMethods()) {
            if (Modifier.isPublic(method.getModifiers())) {
                tests.run("rule 7: any arguments of " + method.getName(), t -> {
                    for (Start start : Start.values()) {
                        callWithAll(t, method, start);
                    }
                });
            }
        }
    }

    private static void callWithAll(Tests t, Method method, Start start) {
        int count = method.getParameterCount();
        int[] values = count > 2 ? FEW : MANY;
        int combinations = 1;
        for (int i = 0; i < count; i++) {
            combinations *= values.length;
        }
        GarmentMarker x = start.make();
        for (int i = 0; i < combinations; i++) {
            if (i % CALLS == CALLS - 1) {
                x = start.make();
            }
            call(t, x, method, arguments(method, values, i));
        }
        t.due("partCount() afterwards", x.partCount() >= 0 && x.partCount() <= 72, true);
    }

    private static Object[] arguments(Method method, int[] values, int combination) {
        Object[] arguments = new Object[method.getParameterCount()];
        int rest = combination;
        for (int i = 0; i < arguments.length; i++) {
            int value = values[rest % values.length];
            rest /= values.length;
            arguments[i] = method.getParameterTypes()[i] == boolean.class ? (Object) (value > 0)
                    : (Object) value;
        }
        return arguments;
    }

    private static void call(Tests t, GarmentMarker x, Method method, Object[] arguments) {
        try {
            Object answer = method.invoke(x, arguments);
            if (answer instanceof Integer number && (number < -1011 || number > 2_000_000)) {
                t.fail(method.getName() + " answered " + number);
            }
        } catch (InvocationTargetException | IllegalAccessException thrown) {
            t.fail(method.getName() + " threw " + thrown.getCause());
        }
    }
}
