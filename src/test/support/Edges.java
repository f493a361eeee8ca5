import java.io.IOException;
import java.lang.reflect.InvocationTargetException;
import java.lang.reflect.Method;
import java.lang.reflect.Modifier;
import java.nio.ByteBuffer;
import java.nio.IntBuffer;
import java.nio.charset.StandardCharsets;
import java.nio.file.Files;
import java.nio.file.Path;
import java.util.Arrays;
import java.util.Comparator;
import java.util.regex.Matcher;
import java.util.regex.Pattern;

/**
 * What the tests of single sentences share. A test is a private static method in a class that extends this
 * one; its name has the promise's number in it, and it begins with sentence(): that number, and those words
 * of the document that it is for.
 */
abstract class Edges {
    static final int NONE = FourPots.NONE;
    private static final Pattern TEST_NAME = Pattern.compile("[a-zA-Z]+([0-9]+)[A-Z]\\w*");
    private static final int MOST_LINES = 40;
    private static final Path DOCUMENT = Path.of("../shared/DOC.md");

    /** The object that a test asks: each test makes its own. */
    static FourPots x;
    private static String where = "";
    private static int promiseInName;
    private static boolean named;
    private static int wrong;
    private static String document;

    // ---- a test and its sentence

    /** The words must stand in the promise's own section, or in what is said ahead of all promises. */
    static void sentence(int promise, String words) {
        where = "promise " + promise + ", \"" + words + "\"";
        named = promise == promiseInName;
        if (!sectionOf(promise).contains(words)) {
            blame("the document does not say so");
        }
    }

    private static String sectionOf(int promise) {
        if (document == null) {
            try {
                document = Files.readString(DOCUMENT).replaceAll("\\s+", " ");
            } catch (IOException e) {
                throw new IllegalStateException("no " + DOCUMENT, e);
            }
        }
        int from = document.indexOf("## Promise " + promise + ":");
        int to = document.indexOf("## ", from + 3);
        return document.substring(0, document.indexOf("## Promise 1:")) + document.substring(from, to);
    }

    static void runAll(Class<?> tests) throws IllegalAccessException {
        Method[] methods = tests.getDeclaredMethods();
        Arrays.sort(methods, Comparator.comparing(Method::getName));
        int ran = 0;
        for (Method m : methods) {
            Matcher name = TEST_NAME.matcher(m.getName());
            if (name.matches() && Modifier.isPrivate(m.getModifiers())) {
                promiseInName = Integer.parseInt(name.group(1));
                runOne(m);
                ran++;
            }
        }
        System.out.println(wrong == 0 ? ran + " sentences hold" : wrong + " answers are not as due");
        if (wrong != 0 || ran == 0) {
            System.exit(1);
        }
    }

    private static void runOne(Method m) throws IllegalAccessException {
        x = new FourPots();
        where = m.getName();
        named = false;
        m.setAccessible(true);
        try {
            m.invoke(null);
        } catch (InvocationTargetException e) {
            e.getCause().printStackTrace(System.out);
            blame("it threw " + e.getCause());
        }
        if (!named) {
            blame(m.getName() + " names no sentence of its promise");
        }
    }

    private static void blame(String what) {
        wrong++;
        if (wrong > MOST_LINES) {
            return;
        }
        String line = StackWalker.getInstance().walk(frames -> frames
            .filter(f -> f.getClassName().endsWith("EdgesTest")).findFirst()
            .map(f -> f.getMethodName() + ", line " + f.getLineNumber()).orElse("?"));
        System.out.println(line + ": " + what + " (" + where + ")");
    }

    // ---- answers

    static void due(long got, long want) {
        if (got != want) {
            blame("answered " + got + ", due is " + want);
        }
    }

    private static void dueStatus(int want) {
        int got = x.status();
        if (got != want) {
            blame("STATUS " + got + ", due is " + want);
        }
    }

    /** The answer, with STATUS 0. */
    static void good(long got, long want) {
        due(got, want);
        dueStatus(0);
    }

    static void yes(boolean got) {
        good(got ? 1 : 0, 1);
    }

    static void no(long got, int status) {
        due(got, NONE);
        dueStatus(status);
    }

    static void no(boolean got, int status) {
        due(got ? 1 : 0, 0);
        dueStatus(status);
    }

    static void told(int what, long want) {
        good(x.told(what), want);
    }

    static void fraction(long upper, long lower) {
        due(x.top(), upper);
        due(x.bottom(), lower);
    }

    // ---- texts

    static int feedText(String s) {
        byte[] bytes = s.getBytes(StandardCharsets.ISO_8859_1);
        IntBuffer ints = ByteBuffer.wrap(Arrays.copyOf(bytes, (bytes.length + 19) / 20 * 20)).asIntBuffer();
        while (ints.hasRemaining()) {
            x.feed(ints.get(), ints.get(), ints.get(), ints.get(), ints.get());
        }
        return bytes.length;
    }

    static int takeMenu(String s) {
        return x.menu(feedText(s));
    }

    static int takePlan(String s) {
        return x.plan(feedText(s));
    }

    /** A new object with a MENU. */
    static void kitchen(String menu) {
        x = new FourPots();
        takeMenu(menu);
        dueStatus(0);
    }

    static void planned(String plan) {
        takePlan(plan);
        dueStatus(0);
    }

    static void goodMenu(String menu, int dishes) {
        good(takeMenu(menu), dishes);
        due(x.fault(0), 0);
        due(x.fault(1), NONE);
    }

    static void goodPlan(String plan, int steps) {
        good(takePlan(plan), steps);
        due(x.fault(0), 0);
        due(x.fault(1), NONE);
    }

    /** The FAULT's place in the text is told by the first ^ in it. */
    static void menuFault(String marked, int kind) {
        no(takeMenu(marked.replaceFirst("\\^", "")), 9);
        dueFault(marked, kind);
    }

    static void planFault(String marked, int kind) {
        no(takePlan(marked.replaceFirst("\\^", "")), 9);
        dueFault(marked, kind);
    }

    private static void dueFault(String marked, int kind) {
        if (x.fault(0) != kind || x.fault(1) != marked.indexOf('^')) {
            blame("FAULT " + x.fault(0) + " at " + x.fault(1) + ", due is " + kind + " at " + marked.indexOf('^')
                + " in " + marked);
        }
    }

    /** So many DISHES aa, ba, ca .. that need nothing. */
    static String dishes(int many) {
        StringBuilder s = new StringBuilder();
        for (int i = 0; i < many; i++) {
            s.append("dish ").append((char) ('a' + i)).append("a work 1;");
        }
        return s.toString();
    }

    /** So many DISHES a, b, c .., each from the one ahead of it, of a WORK. */
    static String chain(int many, int work) {
        StringBuilder s = new StringBuilder();
        for (int i = 0; i < many; i++) {
            s.append("dish ").append((char) ('a' + i)).append(" work ").append(work);
            s.append(i == 0 ? ";" : " from " + (char) ('a' + i - 1) + ";");
        }
        return s.toString();
    }
}
