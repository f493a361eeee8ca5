import java.lang.reflect.Constructor;
import java.lang.reflect.Field;
import java.lang.reflect.Member;
import java.lang.reflect.Method;
import java.lang.reflect.Modifier;
import java.nio.file.Files;
import java.nio.file.Path;
import java.util.Arrays;
import java.util.Set;
import java.util.TreeSet;
import java.util.regex.Matcher;
import java.util.regex.Pattern;

/** The public face as the document tells it, and those rules of the language that a machine can see. */
public final class FaceTest {
    private static final String FACE = "int status();long top();long bottom();boolean tray(int,int,int);"
            + "boolean write(int,int,long);long read(int,int);boolean pour(int,int,int,int,int);"
            + "int feed(int,int,int,int,int);int menu(int);int plan(int);int fault(int);int told(int);"
            + "int dish(int,int);int pot(int);int fits(int);int needed(int);int make(int);int pourOver(int,int);"
            + "int wash(int);int trust(int);int show(int);int keeps(int);boolean empty();int work(int);"
            + "int steps(int);int first(int);int firstAt(int,int);int fewest(int);int curve(int,int);"
            + "int trustful(int);int bound(int);int treeRule(int);int rounds(int,int);int spared(int,int);"
            + "boolean again(int);int cook(int);int cooked(int);int judged();boolean odds(int,int,int);int mark();"
            + "int back()";
    private static int wrong;

    private static void expect(boolean holds, String what) {
        if (!holds) {
            wrong++;
            System.out.println("not so: " + what);
        }
    }

    private static String form(Method m) {
        StringBuilder s = new StringBuilder(m.getReturnType().getSimpleName()).append(' ').append(m.getName());
        String kinds = Arrays.toString(Arrays.stream(m.getParameterTypes()).map(Class::getSimpleName).toArray());
        return s.append('(').append(kinds.substring(1, kinds.length() - 1).replace(" ", "")).append(')').toString();
    }

    private static void face() {
        Set<String> due = new TreeSet<>(Arrays.asList(FACE.split(";")));
        Set<String> got = new TreeSet<>();
        for (Method m : FourPots.class.getDeclaredMethods()) {
            if (Modifier.isPublic(m.getModifiers())) {
                got.add(form(m));
                expect(!Modifier.isStatic(m.getModifiers()), m + " is not static");
            } else {
                hidden(m);
            }
        }
        expect(due.equals(got), "the face is " + due + " but it was " + got);
        for (Field f : FourPots.class.getDeclaredFields()) {
            if (!f.getName().equals("NONE")) {
                hidden(f);
            }
        }
        for (Constructor<?> c : FourPots.class.getDeclaredConstructors()) {
            expect(Modifier.isPublic(c.getModifiers()) && c.getParameterCount() == 0, c + " is the only one");
        }
        int modifiers = FourPots.class.getModifiers();
        expect(Modifier.isPublic(modifiers) && Modifier.isFinal(modifiers), "the class is public and final");
    }

    private static void hidden(Member m) {
        expect(Modifier.isPrivate(m.getModifiers()) || m.isSynthetic(), m + " is private");
    }

    private static void inside() {
        Set<String> open = new TreeSet<>();
        for (String f : FACE.split(";")) {
            open.add(f.substring(f.indexOf(' ') + 1, f.indexOf('(')));
        }
        Class<?>[] classes = FourPots.class.getDeclaredClasses();
        expect(classes.length <= 12, "at most some twelve classes");
        for (Class<?> c : classes) {
            expect(Modifier.isStatic(c.getModifiers()) && !Modifier.isPublic(c.getModifiers()), c + " is static");
            own(c, open);
        }
        own(FourPots.class, open);
    }

    private static void own(Class<?> c, Set<String> open) {
        int fields = 0;
        for (Field f : c.getDeclaredFields()) {
            fields += Modifier.isStatic(f.getModifiers()) ? 0 : 1;
            expect(!Modifier.isStatic(f.getModifiers()) || Modifier.isFinal(f.getModifiers()), f + " is final");
        }
        expect(fields <= 22, c + " has some twenty fields");
        for (Method m : c.getDeclaredMethods()) {
            expect(m.getParameterCount() <= 7, m + " takes at most seven");
            expect(Modifier.isPublic(m.getModifiers()) || !open.contains(m.getName()), m + " bears a public name");
        }
    }

    private static void source() throws Exception {
        String text = Files.readString(Path.of("src/main/java/FourPots.java"));
        String code = text.replaceAll("(?s)/\\*.*?\\*/", "").replaceAll("//[^\n]*", "").replaceAll("\"[^\"]*\"", "\"\"");
        for (String word : "throw throws try catch synchronized assert package protected var new\\s+Thread while".split(" ")) {
            expect(!Pattern.compile("\\b" + word + "\\b").matcher(code).find(), "no " + word);
        }
        expect(!code.contains("->") && !code.contains("::"), "no lambda, no method reference");
        expect(!Pattern.compile("static\\s*\\{").matcher(code).find(), "no static initialiser block");
        expect(!code.contains("Exact("), "no function whose name ends in Exact");
        expect(!code.contains("\" +") && !code.contains("+ \""), "texts are not joined by +");
        Matcher imports = Pattern.compile("import ([^;]*);").matcher(code);
        while (imports.find()) {
            expect(imports.group(1).equals("java.util.Arrays"), "import of " + imports.group(1));
        }
        Matcher loops = Pattern.compile("for \\(([^;]*);([^;]*);([^;]*)\\)").matcher(code);
        while (loops.find()) {
            expect(loops.group(2).matches("(?s).*[<>].*"), "a bound in " + loops.group());
        }
        lengths(code);
    }

    /** Methods and constructors stand at four or eight blanks, and end with a bracket at the same. */
    private static void lengths(String code) {
        String[] lines = code.split("\n");
        int from = 0;
        for (int i = 0; i < lines.length; i++) {
            boolean begins = lines[i].matches("( {4}| {8})[A-Za-z].*\\) \\{");
            from = begins ? i : from;
            if (lines[i].matches(" {4}\\}| {8}\\}")) {
                expect(i - from <= 60 || !lines[from].matches(".*\\) \\{"), "short is " + lines[from]);
                from = i;
            }
        }
    }

    public static void main(String[] args) throws Exception {
        face();
        inside();
        source();
        System.out.println(wrong == 0 ? "face and language are as due" : wrong + " are not as due");
        if (wrong != 0) {
            System.exit(1);
        }
    }
}
