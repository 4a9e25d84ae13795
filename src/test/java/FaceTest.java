import java.io.IOException;
import java.lang.reflect.Constructor;
import java.lang.reflect.Field;
import java.lang.reflect.Method;
import java.lang.reflect.Modifier;
import java.nio.file.Files;
import java.nio.file.Path;
import java.util.Arrays;
import java.util.Set;
import java.util.TreeSet;
import java.util.regex.Matcher;
import java.util.regex.Pattern;

/** The public face is the document's and no more, and the class keeps to what can be seen of LANGUAGE.md. */
public final class FaceTest {
    private static final Check CHECK = new Check();
    private static final String METHODS = """
        int box(int,int) int wire(int,int,int,int) int token(int,int) int cut(int) int feed(int) int graph()
        int of(int,int) int about(int,int) long read(int,int) long fire(int) int period(int) int told(int)
        int when(int) int on(int,int) long then(int,int,int) int see(int,int,int) int fits(int,int)
        long odds(int,int) long mean(int) int plan(int,int) int ends(int) int book(int,int) int looked()
        int judge(int,int,int) int image() int undo() int count(int) int tape(int,int,int)
        int item(int,int,long) long peek(int,int) int shift(int,int,int,int,int)""";
    private static final String[] FORBIDDEN = {"throw", "throws", "try", "catch", "finally", "synchronized", "assert",
        "package", "volatile", "transient", "native", "strictfp", "Object", "System\\.(?!arraycopy)", "\\w+Exact", "->",
        "::", "\\w\\[\\]\\[\\]\\[\\]", "import (?!java\\.util\\.Arrays;)"};

    public static void main(String[] args) throws IOException {
        methods();
        constants();
        constructors();
        classesInside();
        source(Files.readString(Path.of("src/main/java/BoxFlow.java")));
        CHECK.end("FaceTest");
    }

    private static void so(String what, boolean holds) {
        CHECK.due(what, holds ? 1 : 0, 1);
    }

    private static String signature(Method m) {
        StringBuilder text = new StringBuilder(m.getReturnType().getSimpleName()).append(' ').append(m.getName());
        String types = Arrays.toString(Arrays.stream(m.getParameterTypes()).map(Class::getSimpleName).toArray());
        return text.append(types.replace('[', '(').replace(']', ')').replace(" ", "")).toString();
    }

    private static void methods() {
        Set<String> due = new TreeSet<>(Arrays.asList(METHODS.trim().split("(?<=\\))\\s+")));
        CHECK.due("methods of the document", due.size(), 31);
        Set<String> names = new TreeSet<>();
        for (Method m : BoxFlow.class.getDeclaredMethods()) {
            if (Modifier.isPublic(m.getModifiers())) {
                so(signature(m) + " is the document's", due.remove(signature(m)));
                names.add(m.getName());
            }
        }
        so("methods that are missing: " + due, due.isEmpty());
        for (Method m : BoxFlow.class.getDeclaredMethods()) {
            int modifiers = m.getModifiers();
            if (!Modifier.isPublic(modifiers)) {
                so(m.getName() + " is private", Modifier.isPrivate(modifiers));
                so(m.getName() + " has a name of its own", !names.contains(m.getName()));
            }
        }
        for (Class<?> inside : BoxFlow.class.getDeclaredClasses()) {
            for (Method m : inside.getDeclaredMethods()) {
                so(inside + " " + m.getName() + " has a name of its own", !names.contains(m.getName()));
                so(m.getName() + " takes at most seven", m.getParameterCount() <= 7);
            }
        }
    }

    private static void constants() {
        Set<String> due = new TreeSet<>(Arrays.asList("NONE", "BAD", "STATE", "FULL", "NO"));
        for (Field f : BoxFlow.class.getDeclaredFields()) {
            int modifiers = f.getModifiers();
            so(f.getName() + " is the document's or private", due.remove(f.getName()) == Modifier.isPublic(modifiers)
                && (Modifier.isPublic(modifiers) || Modifier.isPrivate(modifiers)));
            so(f.getName() + " is final, if it is static", !Modifier.isStatic(modifiers) || Modifier.isFinal(modifiers));
        }
        so("constants that are missing: " + due, due.isEmpty());
    }

    private static void constructors() {
        Constructor<?>[] all = BoxFlow.class.getDeclaredConstructors();
        CHECK.due("constructors", all.length, 1);
        CHECK.due("its parameters", all[0].getParameterCount(), 0);
        so("the constructor is public", Modifier.isPublic(all[0].getModifiers()));
        so("the class is final", Modifier.isFinal(BoxFlow.class.getModifiers()));
    }

    private static void classesInside() {
        Class<?>[] inside = BoxFlow.class.getDeclaredClasses();
        so("at most twelve classes", inside.length + 1 <= 12);
        for (Class<?> c : inside) {
            so(c + " is static", Modifier.isStatic(c.getModifiers()));
            so(c + " isn't public", !Modifier.isPublic(c.getModifiers()) && !Modifier.isProtected(c.getModifiers()));
            so(c + " has some twenty fields", c.getDeclaredFields().length <= 20);
        }
    }

    private static void source(String text) {
        String code = text.replaceAll("(?s)/\\*.*?\\*/", "").replaceAll("//[^\n]*", "");
        for (String word : FORBIDDEN) {
            boolean plain = word.matches("\\w+");
            Matcher found = Pattern.compile(plain ? "\\b" + word + "\\b" : word).matcher(code);
            so("no " + word, !found.find());
        }
        so("no sign beyond 127", text.chars().allMatch(c -> c < 128));
        int begin = -1;
        String[] lines = text.split("\n");
        for (int i = 0; i < lines.length; i++) {
            if (lines[i].matches("( {4}| {8})[a-zA-Z][^=;]*\\) \\{")) {
                begin = i;
            } else if (begin >= 0 && lines[i].matches("( {4}| {8})\\}")) {
                so("a short method at line " + (begin + 1), i - begin < 60);
                begin = -1;
            }
        }
    }
}
