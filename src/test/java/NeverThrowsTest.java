import java.lang.reflect.Constructor;
import java.lang.reflect.Method;
import java.util.ArrayList;
import java.util.Arrays;
import java.util.Comparator;
import java.util.List;
import java.util.Random;

/** Any calls with any arguments in any state: nothing may be thrown, and the same calls answer the same. */
public final class NeverThrowsTest {
    private static final long[] EDGES = {Long.MIN_VALUE, Integer.MIN_VALUE, Integer.MIN_VALUE + 12L, -20, -6, -2, -1, 0,
        1, 2, 3, 4, 5, 6, 7, 8, 9, 10, 12, 13, 16, 39, 40, 41, 59, 60, 61, 99, 100, 249, 250, 255, 256, 999, 1000,
        Integer.MAX_VALUE - 1L, Integer.MAX_VALUE, 1L << 40, Long.MAX_VALUE};

    public static void main(String[] args) throws Exception {
        int runs = args.length > 0 ? Integer.parseInt(args[0]) : 2000;
        Method[] methods = publicMethods();
        for (int run = 0; run < runs; run++) {
            List<Long> once = answers(methods, run);
            if (run % 50 == 0 && !once.equals(answers(methods, run))) {
                System.out.println("run " + run + " answers in two ways");
                System.exit(1);
            }
        }
        System.out.println(runs + " runs of 512 calls, nothing thrown");
    }

    private static Method[] publicMethods() {
        Method[] methods = Arrays.stream(LostBeforeSung.class.getDeclaredMethods())
            .filter(m -> java.lang.reflect.Modifier.isPublic(m.getModifiers()))
            .toArray(Method[]::new);
        Arrays.sort(methods, Comparator.comparing(Method::getName));
        return methods;
    }

    private static List<Long> answers(Method[] methods, long start) throws Exception {
        Random random = new Random(start);
        Constructor<LostBeforeSung> made = LostBeforeSung.class.getConstructor();
        LostBeforeSung x = made.newInstance();
        List<Long> answers = new ArrayList<>();
        int calm = 1 + random.nextInt(6);
        for (int i = 0; i < 512; i++) {
            Method m = methods[random.nextInt(methods.length)];
            Class<?>[] types = m.getParameterTypes();
            Object[] args = new Object[types.length];
            for (int k = 0; k < args.length; k++) {
                long v = random.nextInt(calm) > 0 ? random.nextInt(6) : EDGES[random.nextInt(EDGES.length)];
                args[k] = types[k] == long.class ? (Object) v : (Object) (int) v;
            }
            answers.add(((Number) m.invoke(x, args)).longValue());
        }
        return answers;
    }
}
