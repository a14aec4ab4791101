import java.lang.reflect.Method;
import java.lang.reflect.Modifier;
import java.util.ArrayList;
import java.util.Arrays;
import java.util.Comparator;
import java.util.List;
import java.util.Random;

/** Every call with arguments far and near, in any state: none may throw, all answer as the oracle does. */
public final class ExtremesTest {
    private static final int[] NUMBERS = {Integer.MIN_VALUE, -1000, -32, -2, -1, -1, 0, 0, 0, 1, 1, 2, 2, 3, 3, 4, 5, 6,
        7, 8, 9, 10, 15, 16, 19, 20, 24, 30, 31, 32, 59, 60, 63, 64, 99, 100, 130, 255, 256, 512, 999, 1000, 1600,
        32767, 32768, 65535, 65536, 1 << 30, Integer.MAX_VALUE};

    private static List<Method> face() {
        List<Method> methods = new ArrayList<>();
        for (Method method : NineSaints.class.getDeclaredMethods()) {
            if (Modifier.isPublic(method.getModifiers())) {
                methods.add(method);
            }
        }
        methods.sort(Comparator.comparing(Method::getName));
        return methods;
    }

    private static void type(NineSaints x, Oracle y, String text) {
        StringBuilder padded = new StringBuilder(text);
        while (padded.length() % 20 != 0) {
            padded.append(' ');
        }
        x.end(0);
        y.end(0);
        for (int i = 0; i < padded.length(); i += 20) {
            int[] n = new int[5];
            for (int k = 0; k < 20; k++) {
                n[k / 4] = n[k / 4] << 8 | padded.charAt(i + k);
            }
            x.feed(n[0], n[1], n[2], n[3], n[4]);
            y.feed(n[0], n[1], n[2], n[3], n[4]);
        }
        x.end(text.length());
        y.end(text.length());
        x.city();
        y.city();
    }

    private static boolean run(long seed, List<Method> face) throws Exception {
        Random random = new Random(seed);
        Towns towns = new Towns(random);
        NineSaints x = new NineSaints();
        Oracle y = new Oracle();
        String text = towns.join(towns.statements(random.nextInt(5)));
        if (text.length() <= 1600 && random.nextInt(8) > 0) {
            type(x, y, text);
        }
        List<String> log = new ArrayList<>();
        log.add(text);
        for (int calls = 0; calls < 400; calls++) {
            Method method = face.get(random.nextInt(face.size()));
            Object[] args = new Object[method.getParameterCount()];
            for (int i = 0; i < args.length; i++) {
                boolean flag = method.getParameterTypes()[i] == boolean.class;
                int small = random.nextInt(5);
                args[i] = flag ? (Object) random.nextBoolean()
                        : (Object) (random.nextInt(3) > 0 ? small : NUMBERS[random.nextInt(NUMBERS.length)]);
            }
            Object want = Oracle.class.getDeclaredMethod(method.getName(), method.getParameterTypes()).invoke(y, args);
            Object got;
            try {
                got = method.invoke(x, args);
            } catch (java.lang.reflect.InvocationTargetException thrown) {
                got = thrown.getCause();
            }
            log.add(method.getName() + Arrays.toString(args) + " = " + got);
            if (!want.equals(got)) {
                log.forEach(System.out::println);
                System.out.println("due is " + want + ", seed " + seed);
                return false;
            }
        }
        return true;
    }

    public static void main(String[] args) throws Exception {
        long first = args.length > 0 ? Long.parseLong(args[0]) : 1;
        long count = args.length > 1 ? Long.parseLong(args[1]) : 80;
        boolean good = face().size() == 38;
        System.out.println(face().size() + " calls");
        for (long seed = first; seed < first + count && good; seed++) {
            good = run(seed, face());
        }
        System.exit(good ? 0 : 1);
    }
}
