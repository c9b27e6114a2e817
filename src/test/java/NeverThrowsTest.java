import java.lang.reflect.InvocationTargetException;
import java.lang.reflect.Method;
import java.lang.reflect.Modifier;
import java.util.Arrays;
import java.util.Comparator;
import java.util.Random;

/** No call may ever throw, for any numbers in any state: drawn calls of all methods, numbers near all bounds. */
public final class NeverThrowsTest {
    private static final int OBJECTS = 400, CALLS = 512;
    private static final int[] BOUNDS = {0, 1, 2, 3, 4, 5, 6, 9, 10, 20, 35, 36, 40, 41, 50, 59, 99, 100, 160, 255, 256,
        707, 999, 1000, 3535, 3599, 3600, 32767, 65535, 99999, 9999940, Integer.MAX_VALUE, Integer.MAX_VALUE - 39};

    public static void main(String[] args) throws IllegalAccessException {
        Checks due = new Checks();
        Method[] methods = Arrays.stream(UnderlayOfUnspoken.class.getDeclaredMethods())
            .filter(m -> Modifier.isPublic(m.getModifiers())).sorted(Comparator.comparing(Method::getName)).toArray(Method[]::new);
        Random random = new Random(11);
        for (int object = 0; object < OBJECTS; object++) {
            UnderlayOfUnspoken x = new UnderlayOfUnspoken();
            int most = object % 4 == 0 ? BOUNDS.length : 8 + random.nextInt(BOUNDS.length - 8);
            Checks.text(x, "leaves thick-held*more;wears 1+day*row;feels thick*thick-column;");
            x.force(object % 2);
            for (int call = 0; call < CALLS; call++) {
                Method method = methods[random.nextInt(methods.length)];
                Object[] numbers = new Object[method.getParameterCount()];
                for (int i = 0; i < numbers.length; i++) {
                    int bound = BOUNDS[random.nextInt(most)];
                    int by = random.nextInt(8) == 0 ? random.nextInt(3) - 1 : 0;
                    numbers[i] = random.nextInt(12) == 0 ? -bound : bound + by;
                }
                try {
                    method.invoke(x, numbers);
                } catch (InvocationTargetException e) {
                    due.holds(method.getName() + Arrays.toString(numbers) + " threw " + e.getCause(), false);
                }
            }
            due.holds("object " + object, x.count(2) >= 0 && x.count(2) <= 36 * 999 && x.count(0) >= 0 && x.count(0) <= 6);
        }
        due.end();
    }
}
