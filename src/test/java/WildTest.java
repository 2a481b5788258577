import java.lang.reflect.InvocationTargetException;
import java.lang.reflect.Method;
import java.lang.reflect.Modifier;
import java.util.ArrayList;
import java.util.Comparator;
import java.util.List;
import java.util.Random;

/** No call throws, whatever its arguments are and whatever went before; and the same calls give the same answers. */
public final class WildTest {
    private static final int[] INTS = {Integer.MIN_VALUE, Integer.MAX_VALUE, -10, -2, -1, 0, 0, 0, 1, 1, 2, 3, 4, 5, 6, 7, 8,
        9, 13, 16, 31, 255, 256, 399, 400, 1999, 2000, 2001, 3000, 0x10000000};
    private static final long[] LONGS = {Long.MIN_VALUE, Long.MAX_VALUE, -1, 0, 1, 2, 255, 256, 0x0101010101010101L, 1L << 55,
        1L << 63, 0x7fffffffL, 0xffffffffL};

    private static final List<Method> CALLS = calls();

    private static List<Method> calls() {
        List<Method> all = new ArrayList<>();
        for (Method method : OverlayViewer.class.getDeclaredMethods()) {
            if (Modifier.isPublic(method.getModifiers())) {
                all.add(method);
            }
        }
        // reflection tells no order, and the runs are to be the same ones always
        all.sort(Comparator.comparing(Method::getName));
        return all;
    }

    public static void main(String[] args) throws IllegalAccessException {
        for (int run = 0; run < 1200; run++) {
            long first = go(run);
            Check.due("run " + run + " once more", go(run), first);
        }
        fullTape("struct s{u1 a[", "-", "1];}");
        fullTape("struct s{u1 a[", "1+", "1];}");
        fullTape("struct s{u1 a[", "(1)*", "1];}");
        fullTape("", "struct ", "");
        fullTape("", "{", "");
        fullTape("struct s{magic m=", "*", ";}");
        fullTape("struct s{pad 1", " ", ";}");
        fullTape("struct s{u1 n;if ", "n or ", "n:u1 b;}");
        Check.end();
    }

    private static long go(int run) throws IllegalAccessException {
        Random random = new Random(run);
        OverlayViewer x = new OverlayViewer();
        long all = 0;
        for (int calls = 0; calls < 512;) {
            if (random.nextInt(8) == 0) {
                String text = random.nextInt(3) == 0 ? Texts.expression(random, List.of("f0", "f1")) : Texts.description(random);
                Check.feed(x, text);
                calls += (text.length() + 7) / 8;
                all = all * 31 + (random.nextBoolean() ? x.describe() : x.evaluate(0, 0));
            } else if (random.nextInt(8) == 0) {
                all = all * 31 + x.push(random.nextInt(2), random.nextInt(5) * 0x0101010101L, 8);
            } else if (random.nextInt(8) == 0) {
                all = all * 31 + x.lay(0, random.nextInt(3), random.nextInt(9));
            }
            calls++;
            all = all * 31 + call(x, CALLS.get(random.nextInt(CALLS.size())), random, run);
        }
        return all;
    }

    private static long call(OverlayViewer x, Method method, Random random, int run) throws IllegalAccessException {
        Object[] args = new Object[method.getParameterCount()];
        for (int i = 0; i < args.length; i++) {
            Class<?> type = method.getParameterTypes()[i];
            if (type == int.class) {
                args[i] = random.nextInt(3) == 0 ? INTS[random.nextInt(INTS.length)] : random.nextInt(4);
            } else if (type == long.class) {
                args[i] = random.nextInt(3) == 0 ? random.nextLong() : LONGS[random.nextInt(LONGS.length)];
            } else {
                args[i] = random.nextBoolean();
            }
        }
        try {
            return ((Number) method.invoke(x, args)).longValue();
        } catch (InvocationTargetException e) {
            Check.due("run " + run + ": " + method.getName() + List.of(args) + " " + e.getCause(), 1, 0);
            return 0;
        }
    }

    private static void fullTape(String first, String middle, String last) {
        StringBuilder text = new StringBuilder(first);
        while (text.length() + middle.length() + last.length() <= 3000) {
            text.append(middle);
        }
        OverlayViewer x = new OverlayViewer();
        Check.image(x, 1, 2, 3, 4);
        int structures = Check.describe(x, text + last);
        Check.due("a full tape of " + middle, structures == 1 ? 0 : x.wrong() > 0 ? 0 : 1, 0);
        x.lay(0, 0, 0);
        Check.due("is laid", x.count(4), Math.max(0, x.count(2)));
        Check.describe(x, "struct s{u1 n;}");
        x.lay(0, 0, 0);
        int answer = Check.evaluate(x, 0, 0, text + last);
        Check.due("a full tape of " + middle + " is no expr", answer <= -10 ? 0 : 1, 0);
        x.clear();
    }
}
