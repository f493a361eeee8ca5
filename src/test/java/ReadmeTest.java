import java.io.IOException;
import java.io.Writer;
import java.lang.reflect.InvocationTargetException;
import java.nio.file.Files;
import java.nio.file.Path;
import java.util.ArrayList;
import java.util.List;
import java.util.regex.Matcher;
import java.util.regex.Pattern;

/**
 * README.md: its Java lines are one program, and each call in them answers what stands behind it; its table has
 * the document's face, call by call, and the STATUS that the document's promises name.
 */
public final class ReadmeTest {
    private static final Pattern BLOCK = Pattern.compile("```java\n(.*?)```", Pattern.DOTALL);
    private static final Pattern ASKED = Pattern.compile("(kitchen\\..*\\));  // (-?[0-9]+|true|false)(:.*)?");
    private static final Pattern ROW = Pattern.compile("\\| `([^`]*)` \\|[^|]*\\| ?([^|]*) ?\\|");
    private static final int MOST_CALLS = 512;
    private static int wrong;

    private static void expect(boolean holds, String what) {
        if (!holds) {
            wrong++;
            System.out.println("not so: " + what);
        }
    }

    // ---- its example

    /** Methods stay as they are; all other blocks stand in main, one behind the other. */
    private static String program(String readme) {
        StringBuilder methods = new StringBuilder();
        StringBuilder main = new StringBuilder();
        Matcher blocks = BLOCK.matcher(readme);
        while (blocks.find()) {
            String block = blocks.group(1);
            if (block.contains("static int put(")) {
                methods.append(block.replace("kitchen.feed(", "calls++;\nkitchen.feed("));
            } else {
                main.append(asked(block));
            }
        }
        return "public final class ReadmeExample {\n"
                + "static int calls;\nstatic int wrong;\n"
                + "static void due(String call, Object got, Object want) {\ncalls++;\n"
                + "if (!String.valueOf(got).equals(String.valueOf(want))) {\nwrong++;\n"
                + "System.out.println(call + \" answered \" + got + \", README.md says \" + want);\n}\n}\n"
                + methods + "public static int[] run() {\n" + main + "return new int[] {calls, wrong};\n}\n}\n";
    }

    private static String asked(String block) {
        StringBuilder s = new StringBuilder();
        for (String line : block.split("\n")) {
            Matcher m = ASKED.matcher(line);
            if (m.matches()) {
                String call = m.group(1).replace("\\", "\\\\").replace("\"", "\\\"");
                s.append("due(\"" + call + "\", " + m.group(1) + ", " + m.group(2) + ");\n");
            } else {
                expect(!line.startsWith("kitchen."), "an answer stands behind " + line);
                s.append(line).append('\n');
            }
        }
        return s.toString();
    }

    private static void example(String readme) throws Exception {
        Path dir = Files.createTempDirectory("readme");
        Path source = dir.resolve("ReadmeExample.java");
        try (Writer w = Files.newBufferedWriter(source)) {
            w.write(program(readme));
        }
        int compiled = javax.tools.ToolProvider.getSystemJavaCompiler().run(null, null, null, "-cp",
                System.getProperty("java.class.path"), "-d", dir.toString(), source.toString());
        expect(compiled == 0, "the example can be compiled");
        if (compiled == 0) {
            runExample(dir);
        }
        clean(dir);
    }

    private static void runExample(Path dir) throws Exception {
        try (java.net.URLClassLoader loader = new java.net.URLClassLoader(new java.net.URL[] {dir.toUri().toURL()})) {
            int[] counts = (int[]) loader.loadClass("ReadmeExample").getMethod("run").invoke(null);
            wrong += counts[1];
            expect(counts[0] > 50 && counts[0] <= MOST_CALLS, "some calls, at most 512: " + counts[0]);
        } catch (InvocationTargetException e) {
            expect(false, "the example threw " + e.getCause());
        }
    }

    private static void clean(Path dir) throws IOException {
        List<Path> files = new ArrayList<>();
        try (java.util.stream.Stream<Path> walk = Files.walk(dir)) {
            walk.forEach(files::add);
        }
        for (int i = files.size() - 1; i >= 0; i--) {
            Files.delete(files.get(i));
        }
    }

    // ---- its tables

    private static void calls(String readme, String document) {
        String face = document.substring(document.indexOf("public FourPots();"), document.indexOf("## Terms"));
        List<String> due = new ArrayList<>();
        Matcher m = Pattern.compile("public ([a-z]+ [^;]*);").matcher(face);
        while (m.find()) {
            due.add(m.group(1));
        }
        List<String> got = new ArrayList<>();
        Matcher rows = ROW.matcher(readme.substring(readme.indexOf("## All calls")));
        while (rows.find()) {
            got.add(rows.group(1));
            statuses(rows.group(1), rows.group(2).trim(), document);
        }
        expect(due.size() == 41 && due.equals(got), "all calls, in their order: " + due + " but there were " + got);
    }

    /** What stands in brackets at a promise's end: numbers ahead of a colon or between the signs ; and , */
    private static void statuses(String call, String told, String document) {
        int from = document.indexOf("`" + call + "`: ");
        expect(from >= 0, "a promise for " + call);
        if (from < 0 || told.equals("none")) {
            return;
        }
        String promise = document.substring(from, document.indexOf("\n", from));
        StringBuilder due = new StringBuilder();
        if (promise.endsWith(").")) {
            String last = lastBrackets(promise);
            Matcher m = Pattern.compile("(?:^|[;,] )([1-9])(?=[:;,]|$)").matcher(last);
            while (m.find()) {
                due.append(due.length() > 0 ? ", " : "").append(m.group(1));
            }
        }
        expect(told.contentEquals(due), "STATUS of " + call + " is " + due + " but there was " + told);
    }

    private static String lastBrackets(String promise) {
        int to = promise.lastIndexOf(')');
        return promise.substring(promise.lastIndexOf('(') + 1, to);
    }

    private static void reasons(String readme, String document) {
        for (int status = 1; status <= 9; status++) {
            Matcher m = Pattern.compile("\n\\| " + status + " \\| ([^|(:]*[^|(: ])").matcher(readme);
            boolean there = m.find();
            expect(there && document.contains(" " + status + " " + m.group(1)), "why STATUS " + status);
        }
        expect(readme.contains("at most 512 calls"), "the limit of 512 calls");
        expect(readme.contains(".ci/run"), "how the tests are run");
    }

    public static void main(String[] args) throws Exception {
        String readme = Files.readString(Path.of("README.md"));
        String document = Files.readString(Path.of("../shared/DOC.md"));
        example(readme);
        calls(readme, document);
        reasons(readme, document);
        System.out.println(wrong == 0 ? "README.md says what is so" : wrong + " are not as due");
        if (wrong != 0) {
            System.exit(1);
        }
    }
}
