import java.lang.reflect.Constructor;
import java.lang.reflect.Executable;
import java.lang.reflect.Field;
import java.lang.reflect.Member;
import java.lang.reflect.Method;
import java.lang.reflect.Modifier;
import java.nio.charset.StandardCharsets;
import java.nio.file.Files;
import java.nio.file.Path;
import java.util.ArrayList;
import java.util.List;
import java.util.TreeSet;
import java.util.regex.Matcher;
import java.util.regex.Pattern;

/** The public face, and what LANGUAGE.md rules out as far as a look at names and words can tell. */
public final class FaceTest {
    private static final String SOURCE = "src/main/java/KeptSentences.java";
    private static final String[] METHODS = {"feed(long,int)", "cut(int)", "tape(int)", "except()", "load()",
        "segment(int,int)", "piece(int,int,int)", "keep(int,int)", "change(int,int)", "undo()", "pair(int,int)",
        "rendered(int,int,int)", "like(int,int)", "score(int,int)", "found(int,int,int)", "differ(int,int)",
        "step(int,int)", "patch(int,int)", "term()", "forbid()", "faults(int)", "counted(int)", "count(int,int)",
        "spread(int)", "about(int)"};
    private static int wrong = 0;

    private static void must(boolean holds, String what) {
        if (!holds) {
            wrong++;
            System.out.println("not so: " + what);
        }
    }

    private static String signature(Method m) {
        List<String> types = new ArrayList<>();
        for (Class<?> type : m.getParameterTypes()) {
            types.add(type.getName());
        }
        return m.getName() + "(" + String.join(",", types) + ")";
    }

    private static boolean hidden(Member m) {
        return Modifier.isPrivate(m.getModifiers());
    }

    private static void face() {
        Class<?> c = KeptSentences.class;
        must(Modifier.isPublic(c.getModifiers()) && Modifier.isFinal(c.getModifiers()), "the class is public final");
        TreeSet<String> names = new TreeSet<>();
        TreeSet<String> open = new TreeSet<>();
        for (Method m : c.getDeclaredMethods()) {
            if (!hidden(m)) {
                open.add(signature(m));
                names.add(m.getName());
                must(m.getReturnType() == int.class && Modifier.isPublic(m.getModifiers()), m + " is public int");
            }
        }
        must(open.equals(new TreeSet<>(List.of(METHODS))), "the methods are the document's: " + open);
        TreeSet<String> constants = new TreeSet<>();
        for (Field f : c.getDeclaredFields()) {
            if (!hidden(f)) {
                constants.add(f.getName());
            }
        }
        TreeSet<String> dueConstants = new TreeSet<>(List.of("NONE", "BAD", "TORN", "STATE", "FULL"));
        must(constants.equals(dueConstants), "the constants are the document's: " + constants);
        Constructor<?>[] made = c.getDeclaredConstructors();
        must(made.length == 1 && made[0].getParameterCount() == 0, "one constructor without parameters");
        must(c.getDeclaredClasses().length < 12, "at most twelve classes");
        methodsOf(c, names);
        for (Class<?> inside : c.getDeclaredClasses()) {
            must(Modifier.isStatic(inside.getModifiers()), inside + " is static");
            methodsOf(inside, names);
        }
    }

    private static void methodsOf(Class<?> c, TreeSet<String> names) {
        for (Method m : c.getDeclaredMethods()) {
            few(m);
            must(c == KeptSentences.class && !hidden(m) || !names.contains(m.getName()), m + " has a name of its own");
        }
        for (Constructor<?> k : c.getDeclaredConstructors()) {
            few(k);
        }
        int fields = 0;
        for (Field f : c.getDeclaredFields()) {
            int is = f.getModifiers();
            fields += Modifier.isStatic(is) ? 0 : 1;
            must(!Modifier.isStatic(is) || Modifier.isFinal(is), f + " is final, being static");
        }
        must(fields <= 20, c + " has at most twenty fields");
    }

    private static void few(Executable e) {
        must(e.getParameterCount() <= 7, e + " has at most seven parameters");
    }

    private static void words() throws java.io.IOException {
        String text = Files.readString(Path.of(SOURCE), StandardCharsets.ISO_8859_1);
        must(text.chars().allMatch(ch -> ch == '\n' || ch >= 32 && ch < 127), "the source is plain ASCII");
        String code = text.replaceAll("(?s)/\\*.*?\\*/", "").replaceAll("//[^\n]*", "");
        Matcher m = Pattern.compile("\\b(throw|throws|try|catch|finally|synchronized|assert|package)\\b"
            + "|->|::|@|\\b[A-Za-z]+Exact\\b|\\bSystem\\.(?!arraycopy)|\"").matcher(code);
        while (m.find()) {
            must(false, "the source does without " + m.group());
        }
        Matcher imports = Pattern.compile("import ([^;]+);").matcher(code);
        while (imports.find()) {
            must(imports.group(1).equals("java.util.Arrays"), "no import of " + imports.group(1));
        }
    }

    public static void main(String[] args) throws java.io.IOException {
        face();
        words();
        System.out.println(wrong == 0 ? "the face is as due" : wrong + " things are not as due");
        if (wrong != 0) {
            System.exit(1);
        }
    }
}
