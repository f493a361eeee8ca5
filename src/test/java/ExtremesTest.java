import java.lang.management.ManagementFactory;
import java.lang.reflect.Method;
import java.nio.ByteBuffer;
import java.nio.IntBuffer;
import java.nio.charset.StandardCharsets;
import java.util.ArrayList;
import java.util.Arrays;
import java.util.Comparator;
import java.util.HashMap;
import java.util.List;
import java.util.Map;
import java.util.Random;

/**
 * Numbers that can't be, in any state: no call throws, none has a STATUS that its promise does not tell, none
 * answers beside NONE or false with another STATUS than 0. And what a whole run makes stays small.
 */
public final class ExtremesTest {
    /** Of each call the STATUSes that its promise tells; the calls that have none are not here. */
    private static final String STATUSES = "tray 1;write 123;read 123;pour 1283;menu 19;plan 19;told 1;dish 16;pot 6;"
            + "fits 1;needed 1;make 17;pourOver 17;wash 17;trust 17;show 17;keeps 16;empty ;work 16;steps 16;first 16;"
            + "firstAt 16;fewest 16;curve 16;trustful 146;bound 1;treeRule 17;rounds 16;spared 16;again 16;cook 16;"
            + "cooked 16;judged 6;odds 16;mark 4;back 6";
    private static final int[] NUMBERS = {Integer.MIN_VALUE, Integer.MIN_VALUE + 1, -1000, -2, -1, 0, 1, 2, 3, 4, 5, 8,
        9, 10, 12, 13, 30, 31, 60, 61, 255, 300, 900, 4095, 4096, 9999, 10000, 65536, Integer.MAX_VALUE - 1,
        Integer.MAX_VALUE};
    private static final String[] TEXTS = {
        "pots 1 1 2;dish a work 3;dish b work 5;dish c work 2 from a b;dish d work 4 from a poured once;"
            + "dish e work 1 keeps 2 from c d;",
        "pots 1 1 1 1;dish a work 1 burns 7;dish b work 2;pair a b;dish c work 3 from a b poured;dish d work 0 from c;",
        "dish a work", "", "pots 1 1 1 1 1 1 1 1;"};
    private static final String[] PLANS = {"make a;make b;loop 9;make c;wash a;end;when full 2;trust d;show d;end;",
        "loop 99;loop 99;loop 99;make a;wash a;end;end;end;", "make", ""};
    private static int wrong;

    private static int feedText(FourPots x, String s) {
        byte[] bytes = s.getBytes(StandardCharsets.ISO_8859_1);
        IntBuffer ints = ByteBuffer.wrap(Arrays.copyOf(bytes, (bytes.length + 19) / 20 * 20)).asIntBuffer();
        while (ints.hasRemaining()) {
            x.feed(ints.get(), ints.get(), ints.get(), ints.get(), ints.get());
        }
        return bytes.length;
    }

    private static Object drawArgument(Random r, Class<?> kind) {
        int n = r.nextInt(3) == 0 ? NUMBERS[r.nextInt(NUMBERS.length)] : r.nextInt(6);
        if (kind == long.class) {
            return r.nextLong();
        }
        return n;
    }

    private static void callOnce(Random r, FourPots x, Method m, Map<String, String> statuses) throws Exception {
        Object[] arguments = new Object[m.getParameterCount()];
        for (int i = 0; i < arguments.length; i++) {
            arguments[i] = drawArgument(r, m.getParameterTypes()[i]);
        }
        int before = x.status();
        Object answer = m.invoke(x, arguments);
        String call = m.getName() + Arrays.toString(arguments);
        String allowed = statuses.get(m.getName());
        if (allowed == null) {
            expect(x.status() == before, call + " has no status");
            return;
        }
        expect(x.status() == 0 || allowed.indexOf('0' + x.status()) >= 0, call + " has status " + x.status());
        if (x.status() != 0) {
            boolean none = answer instanceof Boolean b ? !b : ((Number) answer).longValue() == FourPots.NONE;
            expect(none, call + " with status " + x.status() + " answered " + answer);
        }
    }

    private static void expect(boolean holds, String what) {
        if (!holds) {
            wrong++;
            System.out.println("not so: " + what);
        }
    }

    private static void extremes() throws Exception {
        Map<String, String> statuses = new HashMap<>();
        for (String s : STATUSES.split(";")) {
            String[] parts = (s + " ").split(" ", 2);
            statuses.put(parts[0], parts[1].trim());
        }
        List<Method> calls = new ArrayList<>(Arrays.asList(FourPots.class.getMethods()));
        calls.removeIf(m -> m.getDeclaringClass() != FourPots.class);
        calls.sort(Comparator.comparing(Method::getName));
        for (int seed = 0; seed < 600; seed++) {
            Random r = new Random(seed);
            FourPots x = new FourPots();
            for (int i = 0; i < 400; i++) {
                int k = r.nextInt(40);
                if (k == 0) {
                    x.menu(feedText(x, TEXTS[r.nextInt(TEXTS.length)]));
                } else if (k == 1) {
                    x.plan(feedText(x, PLANS[r.nextInt(PLANS.length)]));
                } else {
                    callOnce(r, x, calls.get(r.nextInt(calls.size())), statuses);
                }
            }
        }
    }

    private static String widest(int turn) {
        StringBuilder s = new StringBuilder("pots 1 1 1 1 1 1 1 1;");
        for (int d = 0; d < 12; d++) {
            s.append("dish ").append((char) ('a' + d)).append(" work ").append(d * 7 % 13 + turn % 50);
            s.append(d > 8 ? " from a b c poured;" : ";");
        }
        return s.toString();
    }

    private static long made() {
        return ((com.sun.management.ThreadMXBean) ManagementFactory.getThreadMXBean())
            .getThreadAllocatedBytes(Thread.currentThread().getId());
    }

    /** The widest menus and the dearest calls: an element takes a byte at least, and seven millions are all. */
    private static void room() {
        String[] menus = new String[30];
        for (int i = 0; i < menus.length; i++) {
            menus[i] = widest(i);
        }
        long before = made();
        FourPots x = new FourPots();
        for (String menu : menus) {
            x.menu(feedText(x, menu));
            x.first(255);
            x.steps(255);
            x.fewest(4095);
            x.trustful(255);
            x.rounds(255, 4);
            x.spared(255, 9);
            x.curve(4095, 12);
            x.mark();
        }
        long used = made() - before;
        expect(used < 1000000, "a run made " + used + " bytes");
    }

    public static void main(String[] args) throws Exception {
        extremes();
        room();
        System.out.println(wrong == 0 ? "no call goes astray" : wrong + " go astray");
        if (wrong != 0) {
            System.exit(1);
        }
    }
}
