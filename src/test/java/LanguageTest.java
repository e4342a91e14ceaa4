import java.lang.reflect.Constructor;
import java.lang.reflect.Executable;
import java.lang.reflect.Field;
import java.lang.reflect.Method;
import java.lang.reflect.Modifier;
import java.nio.file.Files;
import java.nio.file.Path;
import java.util.ArrayList;
import java.util.Arrays;
import java.util.List;
import java.util.Set;
import java.util.TreeSet;

/** The public face, and those rules of LANGUAGE.md that can be seen from outside or from the text. */
public final class LanguageTest {
    private static final String[] FACE = {"write 1", "wipe 0", "fault 0", "lay 0", "cause 1", "code 2",
        "registers 1", "costs 3", "weigh 2", "profile 0", "undo 0", "states 0", "state 2", "passage 2",
        "version 3", "best 0", "meets 2", "ifMeets 2", "start 0", "step 1", "now 1", "cell 1", "register 1",
        "memory 1", "variable 1", "out 1", "went 1", "count 1"};
    private static final Set<String> CONSTANTS = Set.of("BAD", "NO", "FULL", "NONE", "ZERO");
    private static final Check check = new Check();

    public static void main(String[] args) throws Exception {
        face();
        List<Class<?>> classes = new ArrayList<>(List.of(StackStates.class.getDeclaredClasses()));
        check.isTrue("at most twelve classes", classes.size() < 12);
        classes.add(StackStates.class);
        for (Class<?> c : classes) shape(c);
        text(Files.readString(Path.of("src/main/java/StackStates.java")));
        check.end();
    }

    private static void face() {
        check.about("rule 1");
        check.isTrue("public final", StackStates.class.getModifiers() == (Modifier.PUBLIC | Modifier.FINAL));
        Set<String> found = new TreeSet<>();
        Set<String> hidden = new TreeSet<>();
        for (Method m : StackStates.class.getDeclaredMethods()) {
            if (Modifier.isPrivate(m.getModifiers())) {
                hidden.add(m.getName());
                continue;
            }
            check.isTrue(m + " is public", m.getModifiers() == Modifier.PUBLIC);
            check.isTrue(m + " answers an int", m.getReturnType() == int.class);
            for (Class<?> p : m.getParameterTypes()) check.isTrue(m + " takes ints", p == int.class);
            found.add(m.getName() + " " + m.getParameterCount());
        }
        check.isTrue("the methods: " + found, found.equals(new TreeSet<>(Arrays.asList(FACE))));
        for (String name : FACE) check.isTrue(name, !hidden.contains(name.substring(0, name.indexOf(' '))));
        Constructor<?>[] constructors = StackStates.class.getDeclaredConstructors();
        check.due("constructors", constructors.length, 1);
        check.isTrue("public constructor", Modifier.isPublic(constructors[0].getModifiers()));
        check.due("its parameters", constructors[0].getParameterCount(), 0);
        for (Field f : StackStates.class.getDeclaredFields()) {
            boolean open = !Modifier.isPrivate(f.getModifiers());
            check.isTrue("field " + f, open == CONSTANTS.contains(f.getName()));
        }
    }

    private static void shape(Class<?> c) {
        check.about("the shape of " + c.getSimpleName());
        if (c != StackStates.class) {
            check.isTrue("static", Modifier.isStatic(c.getModifiers()));
            check.isTrue("not public", !Modifier.isPublic(c.getModifiers()));
        }
        int fields = 0;
        for (Field f : c.getDeclaredFields()) {
            if (Modifier.isStatic(f.getModifiers())) {
                check.isTrue(f + " is final", Modifier.isFinal(f.getModifiers()));
                Set<Class<?>> kinds = Set.of(int.class, String.class, int[].class);
                check.isTrue(f + " is a constant", kinds.contains(f.getType()));
            } else {
                fields++;
            }
        }
        check.isTrue("some twenty fields", fields <= 20);
        for (Method m : c.getDeclaredMethods()) {
            parameters(m);
            String name = m.getName() + " ";
            boolean own = !Modifier.isPrivate(m.getModifiers());
            for (String open : FACE) check.isTrue(m + " has a name of its own", own || !open.startsWith(name));
        }
        for (Constructor<?> m : c.getDeclaredConstructors()) parameters(m);
    }

    private static void parameters(Executable m) {
        check.isTrue(m + " has at most seven parameters", m.getParameterCount() <= 7);
    }

    private static void text(String source) {
        check.about("the text");
        String code = source.replaceAll("(?s)/\\*.*?\\*/", "").replaceAll("//[^\n]*", "");
        for (String word : new String[] {"throws?", "try", "catch", "finally", "synchronized", "assert", "package",
            "double", "float", "\\w*Exception", "\\w*Error", "\\w*Exact", "Object", "Thread", "Random",
            "System\\.(?!arraycopy)\\w+", "equals", "hashCode", "toString"}) {
            check.isTrue("no " + word, !code.matches("(?s).*\\b" + word + "\\b.*"));
        }
        check.isTrue("no lambda", !code.contains("->"));
        check.isTrue("no method reference", !code.contains("::"));
        check.isTrue("one import", code.split("\\bimport\\b").length == 2 && code.contains("import java.util.Arrays;"));
        int longest = 0;
        for (String method : code.split("\n\\s*\n")) longest = Math.max(longest, method.split("\n").length);
        check.isTrue("methods are short", longest <= 60);
        for (char letter : source.toCharArray()) check.isTrue("a plain letter", letter < 127);
    }
}
