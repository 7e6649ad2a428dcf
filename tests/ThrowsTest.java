import java.lang.reflect.InvocationTargetException;
import java.lang.reflect.Method;
import java.lang.reflect.Modifier;
import java.util.ArrayList;
import java.util.Arrays;
import java.util.Comparator;
import java.util.List;
import java.util.Random;

/**
 * Calls with any arguments in any state end, and throw nothing but what their method names: the
 * machine itself never throws. Lives are long here, since that holds behind the 512th call as well
 * (LANGUAGE.md, rule 7).
 */
public final class ThrowsTest {
    private static final int LIVES = 40;
    private static final int CALLS = 1500;
    private static final int[] FAR = {Integer.MIN_VALUE, -2000000000, -128, -2, -1, 36, 37, 63, 64, 127, 128, 150, 500,
        501, 999999, 1000000, 2000000000, Integer.MAX_VALUE};
    private static final String SIGNS = ".123456;kat:0123456789 ";
    private static final List<Method> METHODS = new ArrayList<>();

    private static int wrong = 0;

    public static void main(String[] args) throws IllegalAccessException {
        Watch.begin("ThrowsTest");
        int calls = 0;
        int refused = 0;
        for (int life = 1; life <= LIVES; life++) {
            Random random = new Random(life);
            NumberPlace x = new NumberPlace();
            for (int k = 0; k < CALLS; k++) {
                Method method = methods().get(random.nextInt(methods().size()));
                refused += isRefused(x, method, arguments(method, random)) ? 1 : 0;
                calls++;
            }
        }
        System.out.println(calls + " calls, " + refused + " of them refused, " + wrong + " wrong");
        if (wrong != 0 || refused == 0) {
            System.exit(1);
        }
    }

    private static List<Method> methods() {
        if (METHODS.isEmpty()) {
            for (Method method : NumberPlace.class.getDeclaredMethods()) {
                if (Modifier.isPublic(method.getModifiers())) {
                    METHODS.add(method);
                }
            }
            METHODS.sort(Comparator.comparing(Method::getName));
        }
        return METHODS;
    }

    private static Object[] arguments(Method method, Random random) {
        Object[] result = new Object[method.getParameterCount()];
        for (int k = 0; k < result.length; k++) {
            if (random.nextInt(8) == 0) {
                result[k] = FAR[random.nextInt(FAR.length)];
            } else if (method.getName().equals("append")) {
                result[k] = (int) SIGNS.charAt(random.nextInt(SIGNS.length()));
            } else {
                result[k] = random.nextInt(random.nextBoolean() ? 36 : 4);
            }
        }
        return result;
    }

    private static boolean isRefused(NumberPlace x, Method method, Object[] arguments) throws IllegalAccessException {
        try {
            method.invoke(x, arguments);
            return false;
        } catch (InvocationTargetException e) {
            Class<?> thrown = e.getCause().getClass();
            if (!Arrays.asList(method.getExceptionTypes()).contains(thrown)) {
                wrong++;
                System.out.println(method.getName() + Arrays.toString(arguments) + " throws " + e.getCause());
            }
            return true;
        }
    }
}
