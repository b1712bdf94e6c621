import java.lang.reflect.InvocationTargetException;
import java.lang.reflect.Method;
import java.lang.reflect.Modifier;
import java.util.Arrays;
import java.util.Comparator;
import java.util.Random;

/** Any numbers in any state: no call throws, and what is refused changes nothing. */
public final class RefusedTest {
    private static final int[] NUMBERS = {Integer.MIN_VALUE, -100, -10, -9, -3, -2, -1, 0, 1, 2, 3, 4, 5, 6, 7, 8, 9, 10,
        11, 12, 13, 20, 21, 31, 32, 60, 61, 63, 64, 80, 127, 128, 255, 256, 999, 1000, 65536, Integer.MAX_VALUE};
    private static final String[] NETS = {"", "r0 0 0;", "c1 1;a1;w1;r0 0 0;r1 0 3;r0 1 2;",
        "c3 1;a9;w20;r0 0 0;r0 1 1;r0 2 2;r1 3 3;r1 4 0;r1 5 1;r0 0 2;"};

    public static void main(String[] args) throws ReflectiveOperationException {
        Method[] calls = calls();
        Check.due("calls of the face", calls.length, 24);
        for (int seed = 0; seed < 400; seed++) {
            anyCalls(calls, new Random(seed), NETS[seed % NETS.length]);
        }
        Check.end();
    }

    private static Method[] calls() {
        return Arrays.stream(TrunkRadio.class.getDeclaredMethods())
            .filter(m -> Modifier.isPublic(m.getModifiers()))
            .sorted(Comparator.comparing(Method::getName))
            .toArray(Method[]::new);
    }

    private static void anyCalls(Method[] calls, Random dice, String text) throws ReflectiveOperationException {
        TrunkRadio x = Check.told(text);
        TrunkRadio twin = Check.told(text);
        for (int i = 0; i < 300; i++) {
            Method call = calls[dice.nextInt(calls.length)];
            // A net() of an empty text leaves no RADIOS, so it comes seldom.
            if (call.getName().equals("net") && dice.nextInt(4) > 0) {
                continue;
            }
            Object[] numbers = new Object[call.getParameterCount()];
            for (int p = 0; p < numbers.length; p++) {
                numbers[p] = dice.nextBoolean() ? dice.nextInt(3) : NUMBERS[dice.nextInt(NUMBERS.length)];
            }
            String before = Check.all(x);
            String name = call.getName() + Arrays.toString(numbers);
            int answer = answer(call, x, numbers, name);
            Check.due("the same calls, the same answer: " + name, answer(call, twin, numbers, name), answer);
            boolean isRefused = answer == TrunkRadio.BAD || answer == TrunkRadio.STATE || answer == TrunkRadio.FULL;
            if (isRefused || answer <= -10) {
                Check.isTrue("refused, and nothing changed: " + name, before.equals(Check.all(x)));
            }
        }
    }

    private static int answer(Method call, TrunkRadio x, Object[] numbers, String name)
            throws ReflectiveOperationException {
        try {
            return (Integer) call.invoke(x, numbers);
        } catch (InvocationTargetException thrown) {
            Check.isTrue(name + " threw " + thrown.getCause(), false);
            return Integer.MIN_VALUE;
        }
    }
}
