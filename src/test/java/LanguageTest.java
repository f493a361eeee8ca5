import java.io.ByteArrayOutputStream;
import java.io.IOException;
import java.io.PrintStream;
import java.nio.file.DirectoryStream;
import java.nio.file.Files;
import java.nio.file.Path;
import java.util.ArrayList;
import java.util.Collections;
import java.util.List;
import java.util.Map;
import java.util.Set;
import java.util.TreeMap;
import java.util.TreeSet;
import java.util.regex.Matcher;
import java.util.regex.Pattern;
import java.util.spi.ToolProvider;

/**
 * Rules of LANGUAGE.md that show in what javac made of the class: who calls whom and how deep, what of the library
 * is called, that nothing is thrown or caught, no lambda, no text joined by +.
 */
public final class LanguageTest {
    private static final int DEEPEST = 8;
    /** The methods that call themselves; each carries a bound of its own. */
    private static final Set<String> RECURSIVE = Set.of("FourPots$Rounds.cookMore");
    private static final Set<String> LIBRARY = Set.of("java/lang/Object.<init>", "java/lang/Integer.bitCount",
            "java/lang/Integer.numberOfTrailingZeros", "java/lang/Math.max", "java/lang/Math.min",
            "java/lang/String.length", "java/lang/String.charAt", "java/lang/System.arraycopy",
            "java/util/Arrays.fill");
    private static final Set<String> NEVER = Set.of("athrow", "invokedynamic", "monitorenter", "monitorexit");
    private static final Pattern METHOD = Pattern.compile("  (?:[\\w.\\[\\]$]+ )*([\\w$]+)\\([^)]*\\);");
    private static final Pattern CALL = Pattern.compile(".*// (?:Interface)?Method ([^:]*):.*");
    private static final Pattern CODE = Pattern.compile(" +[0-9]+: ([a-z_0-9]+).*");
    private static final Map<String, Set<String>> CALLS = new TreeMap<>();
    private static int wrong;

    private static void expect(boolean holds, String what) {
        if (!holds) {
            wrong++;
            System.out.println("not so: " + what);
        }
    }

    private static String disassembled(Path file) {
        ByteArrayOutputStream out = new ByteArrayOutputStream();
        PrintStream print = new PrintStream(out, true);
        ToolProvider.findFirst("javap").orElseThrow().run(print, print, "-c", "-p", file.toString());
        return out.toString();
    }

    private static void readClass(Path file) {
        String owner = file.getFileName().toString().replace(".class", "");
        String method = "";
        for (String line : disassembled(file).split("\n")) {
            Matcher begins = METHOD.matcher(line);
            Matcher call = CALL.matcher(line);
            Matcher code = CODE.matcher(line);
            if (begins.matches()) {
                method = owner + "." + (begins.group(1).equals(owner) ? "<init>" : begins.group(1));
                CALLS.putIfAbsent(method, new TreeSet<>());
            } else if (call.matches()) {
                String called = call.group(1).replace("\"", "");
                CALLS.get(method).add(called.contains(".") ? called : owner + "." + called);
            }
            expect(!code.matches() || !NEVER.contains(code.group(1)), "no " + line.trim() + " in " + method);
            expect(!line.contains("Exception table"), "nothing is caught in " + method);
        }
    }

    private static void library() {
        for (Map.Entry<String, Set<String>> e : CALLS.entrySet()) {
            for (String called : e.getValue()) {
                boolean own = called.startsWith("FourPots");
                expect(!own || CALLS.containsKey(called), called + " was found");
                expect(own || LIBRARY.contains(called), e.getKey() + " may call " + called);
            }
        }
    }

    /** The longest chain of calls from a method on; a method that calls itself counts once. */
    private static List<String> longestFrom(String method, List<String> open) {
        List<String> longest = new ArrayList<>();
        for (String called : CALLS.getOrDefault(method, Collections.emptySet())) {
            if (called.equals(method)) {
                expect(RECURSIVE.contains(method), method + " calls itself");
            } else if (open.contains(called)) {
                expect(false, called + " is called in a ring: " + open);
            } else {
                open.add(called);
                List<String> chain = longestFrom(called, open);
                open.remove(open.size() - 1);
                longest = chain.size() > longest.size() ? chain : longest;
            }
        }
        List<String> with = new ArrayList<>(longest);
        with.add(0, method);
        return with;
    }

    public static void main(String[] args) throws IOException {
        Path classes = Path.of(System.getProperty("java.class.path"));
        try (DirectoryStream<Path> files = Files.newDirectoryStream(classes, "FourPots*.class")) {
            for (Path file : files) {
                readClass(file);
            }
        }
        expect(CALLS.containsKey("FourPots.<init>") && CALLS.containsKey("FourPots.back"), "the class was read");
        library();
        for (String method : CALLS.keySet()) {
            List<String> chain = longestFrom(method, new ArrayList<>(List.of(method)));
            expect(chain.size() <= DEEPEST, "at most eight deep: " + chain);
        }
        System.out.println(wrong == 0 ? "the language is kept" : wrong + " are not as due");
        if (wrong != 0) {
            System.exit(1);
        }
    }
}
