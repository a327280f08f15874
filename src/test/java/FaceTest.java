import java.lang.reflect.Constructor;
import java.lang.reflect.Field;
import java.lang.reflect.Method;
import java.lang.reflect.Modifier;
import java.nio.file.Files;
import java.nio.file.Path;
import java.util.Arrays;
import java.util.Set;
import java.util.TreeSet;
import java.util.regex.Matcher;
import java.util.regex.Pattern;

/** The public face, and the rules of LANGUAGE.md that a look at the class or its text can tell. */
public final class FaceTest {
    private static final Due DUE = new Due();
    private static final String SOURCE = "src/main/java/StairLines.java";
    private static final String[] CALLS = {"step 3", "come 3", "set 3", "told 2", "feed 1", "text 0", "force 1", "tick 0",
        "run 1", "on 2", "holdsUp 0", "widen 0", "later 0", "apart 1", "order 1", "shut 2", "drill 0", "judge 2", "look 2",
        "drawn 1", "image 0", "back 0", "count 1", "sheet 3", "cell 3", "copy 5", "classes 4", "taken 2"};

    public static void main(String[] args) throws Exception {
        constants();
        members();
        insides();
        words();
        methodsAreShort();
        DUE.end();
    }

    private static void constants() {
        DUE.is("NONE", StairLines.NONE, -1);
        DUE.is("BAD", StairLines.BAD, -2);
        DUE.is("STATE", StairLines.STATE, -3);
        DUE.is("FULL", StairLines.FULL, -4);
        DUE.is("NO", StairLines.NO, -4611686018427387904L);
    }

    private static void members() {
        Class<?> c = StairLines.class;
        DUE.holds("public and final", Modifier.isPublic(c.getModifiers()) && Modifier.isFinal(c.getModifiers()));
        Set<String> calls = new TreeSet<>();
        Set<String> names = new TreeSet<>();
        for (Method m : c.getDeclaredMethods()) {
            if (!Modifier.isPrivate(m.getModifiers())) {
                calls.add(m.getName() + " " + m.getParameterCount());
                names.add(m.getName());
                DUE.holds(m + " takes and answers ints", Modifier.isPublic(m.getModifiers()) && !Modifier.isStatic(m.getModifiers())
                    && m.getReturnType() == int.class && Arrays.stream(m.getParameterTypes()).allMatch(t -> t == int.class));
            }
        }
        DUE.holds("the calls are " + calls, calls.equals(new TreeSet<>(Arrays.asList(CALLS))));
        for (Method m : c.getDeclaredMethods()) {
            DUE.holds(m + " bears a public name", !Modifier.isPrivate(m.getModifiers()) || !names.contains(m.getName()));
        }
        Set<String> constants = new TreeSet<>();
        for (Field f : c.getDeclaredFields()) {
            if (!Modifier.isPrivate(f.getModifiers())) {
                constants.add(f.getName());
            }
            DUE.holds(f + " is static, not final", !Modifier.isStatic(f.getModifiers()) || Modifier.isFinal(f.getModifiers()));
        }
        DUE.holds("the constants are " + constants, constants.equals(Set.of("NONE", "BAD", "STATE", "FULL", "NO")));
        Constructor<?>[] made = c.getDeclaredConstructors();
        DUE.holds("one constructor", made.length == 1 && Modifier.isPublic(made[0].getModifiers()) && made[0].getParameterCount() == 0);
    }

    private static void insides() {
        Class<?>[] inside = StairLines.class.getDeclaredClasses();
        DUE.holds("some twelve classes", inside.length <= 11);
        for (Class<?> c : inside) {
            DUE.holds(c + " is static and not public", Modifier.isStatic(c.getModifiers()) && !Modifier.isPublic(c.getModifiers()));
            DUE.holds(c + " has few fields", c.getDeclaredFields().length <= 20);
            for (Method m : c.getDeclaredMethods()) {
                DUE.holds(m + " bears a public name", Arrays.stream(CALLS).noneMatch(call -> call.startsWith(m.getName() + " ")));
                DUE.holds(m + " has few parameters", m.getParameterCount() <= 7);
            }
        }
    }

    private static String source() throws Exception {
        String text = Files.readString(Path.of(SOURCE));
        return text.replaceAll("(?s)/\\*.*?\\*/", "").replaceAll("//[^\n]*", "");
    }

    private static void words() throws Exception {
        String text = source();
        for (String word : new String[] {"throw", "throws", "try", "catch", "synchronized", "assert", "package", "record",
            "Object", "System.nanoTime", "System.currentTimeMillis", "Random", "Exact", "hashCode", "toString", "native"}) {
            DUE.holds("no " + word, !Pattern.compile("\\b" + Pattern.quote(word) + "\\b").matcher(text).find());
        }
        DUE.holds("no lambda", !text.contains("->"));
        DUE.holds("no method reference", !text.contains("::"));
        Matcher imports = Pattern.compile("import ([^;]*);").matcher(text);
        while (imports.find()) {
            DUE.holds("import of " + imports.group(1), imports.group(1).equals("java.util.Arrays"));
        }
        Matcher library = Pattern.compile("\\b(Arrays|System|Math)\\.(\\w+)").matcher(text);
        while (library.find()) {
            DUE.holds("use of " + library.group(), Set.of("fill", "arraycopy", "min", "max").contains(library.group(2)));
        }
    }

    private static void methodsAreShort() throws Exception {
        int from = 0;
        int at = 0;
        for (String line : source().split("\n")) {
            at++;
            if (line.matches(" {4,8}[a-z].*\\) \\{")) {
                from = at;
            }
            if (line.matches(" {4,8}}")) {
                DUE.holds("the method that ends in line " + at + " is short", from == 0 || at - from <= 60);
                from = 0;
            }
        }
    }
}
