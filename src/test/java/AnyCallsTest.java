import java.lang.reflect.InvocationTargetException;
import java.lang.reflect.Method;
import java.lang.reflect.Modifier;
import java.util.Arrays;
import java.util.Comparator;
import java.util.List;
import java.util.NoSuchElementException;
import java.util.Random;

/** Calls with any arguments at all, in any order: nothing may be thrown but what the document names, and refused calls change nothing. */
public final class AnyCallsTest {
    private static final List<String> MAY_THROW = List.of("person", "rates", "row");
    private static final List<String> READS_TEXT = List.of("street", "rule");
    private static final int[] ODD = { 0, 1, 2, 3, 5, 6, 7, 13, 14, 15, 20, 21, 60, 61, 76, 80, 81, 99, 100, 200, 201, 16383, 16384,
        -1, -2, -100, 255, 256, 1 << 30, Integer.MIN_VALUE, Integer.MAX_VALUE, 0x62352C31, 0x302D312A, 0x3B6E302C };
    private static int asked;

    public static void main(String[] args) throws Exception {
        int seeds = args.length > 0 ? Integer.parseInt(args[0]) : 300;
        Method[] methods = MoreThanHalf.class.getDeclaredMethods();
        Method[] face = Arrays.stream(methods).filter(m -> Modifier.isPublic(m.getModifiers()))
                .sorted(Comparator.comparing(Method::getName)).toArray(Method[]::new);
        if (face.length != 47) {
            throw new IllegalStateException("47 methods are promised, there are " + face.length);
        }
        for (int seed = 0; seed < seeds; seed++) {
            run(face, new Random(seed), seed % 15);
        }
        System.out.println("AnyCallsTest: " + asked + " calls, all as due");
    }

    private static void run(Method[] face, Random random, int people) throws Exception {
        MoreThanHalf x = new MoreThanHalf();
        int calls = 0;
        for (int i = 0; i < people; i++) {
            Checks.street(x, (random.nextBoolean() ? "b" : "n") + random.nextInt(100) + ",3" + (random.nextInt(5) == 0 ? "!" : ""));
            calls += 4;
        }
        while (calls++ < 512) {
            Method method = face[random.nextInt(face.length)];
            Object[] arguments = new Object[method.getParameterCount()];
            for (int k = 0; k < arguments.length; k++) {
                boolean odd = random.nextInt(3) == 0;
                arguments[k] = odd ? ODD[random.nextInt(ODD.length)] : random.nextInt(random.nextBoolean() ? people + 1 : 1 << people);
            }
            ask(x, method, arguments);
        }
    }

    private static void ask(MoreThanHalf x, Method method, Object[] arguments) throws Exception {
        String call = method.getName() + Arrays.toString(arguments);
        String before = all(x);
        Object answer;
        try {
            answer = method.invoke(x, arguments);
        } catch (InvocationTargetException e) {
            if (!(e.getCause() instanceof NoSuchElementException) || !MAY_THROW.contains(method.getName())) {
                throw new IllegalStateException(call, e.getCause());
            }
            answer = -1;
        }
        asked++;
        boolean readsText = READS_TEXT.contains(method.getName());
        boolean refused = answer.equals(false) || answer.equals(-1) || readsText && (int) answer < 0;
        if (refused && !before.equals(all(x))) {
            throw new IllegalStateException(call + " was refused and changed something: " + before + " became " + all(x));
        }
        if (readsText && x.count(6) != 0) {
            throw new IllegalStateException(call + " left THE TEXT");
        }
    }

    private static String all(MoreThanHalf x) {
        StringBuilder all = new StringBuilder();
        for (int what = 0; what < 8; what++) {
            all.append(what == 6 ? 0 : x.count(what)).append(' ');
        }
        for (int day = 0; day <= x.count(1); day++) {
            all.append(x.state(day)).append(',');
        }
        for (int i = 0; i < x.count(0); i++) {
            all.append(' ').append(x.person(i, 1)).append('/').append(x.person(i, 2)).append('/').append(x.rates(0, i));
            all.append('/').append(x.rates(1, i));
            for (int j = 0; j < x.count(0); j++) {
                all.append('.').append(x.hears(i, j));
            }
        }
        for (int i = 0; i < x.count(5); i++) {
            all.append(' ').append(x.row(i));
        }
        return all.toString();
    }
}
