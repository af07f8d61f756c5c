import java.io.IOException;
import java.lang.reflect.Constructor;
import java.lang.reflect.Field;
import java.lang.reflect.Method;
import java.lang.reflect.Modifier;
import java.nio.file.Files;
import java.nio.file.Path;
import java.util.Set;
import java.util.TreeSet;

/** The public face, and those rules of LANGUAGE.md that a look at the class and its source can tell. */
public final class FaceTest {
    private static final Check CHECK = new Check();
    private static final Set<String> FACE = Set.of(
        "int letter(int)", "int blank()", "int begin()", "int insert(int,int)", "int remove(int,int,int)",
        "int move(int,int,int,int)", "int show(int,boolean)", "int decide(int,int)", "int settle()", "int length(int)",
        "int read(int,int,int)", "int place(int,int)", "int change(int,int)", "int span(int,int)", "int found(int)",
        "int count(int)", "long digest()");
    private static final Set<String> CONSTANTS = Set.of("NONE", "UNKNOWN", "OUTSIDE", "STATE", "FULL");
    private static final String[] BARRED = {
        "throw", "try", "catch", "synchronized", "assert", "import", "package", "protected", "Exact", "equals", "hashCode",
        "toString", "System.out", "Math.random", "->", "::", "static {"};

    public static void main(String[] args) throws IOException {
        membersAreTheFace();
        classesInsideAreStatic();
        classesAreSmall();
        sourceKeepsTheRules(Files.readString(Path.of(args.length > 0 ? args[0] : "src/main/java/TrackedLetters.java")));
        CHECK.end("FaceTest");
    }

    private static void membersAreTheFace() {
        Class<?> c = TrackedLetters.class;
        CHECK.due("public and final", c.getModifiers() & (Modifier.PUBLIC | Modifier.FINAL), Modifier.PUBLIC | Modifier.FINAL);
        Set<String> seen = new TreeSet<>();
        Set<String> names = new TreeSet<>();
        for (Method m : c.getDeclaredMethods()) {
            if (!Modifier.isPrivate(m.getModifiers())) {
                seen.add(signature(m));
                names.add(m.getName());
            }
        }
        same("methods", seen, new TreeSet<>(FACE));
        for (Class<?> each : withClassesInside(c)) {
            for (Method m : each.getDeclaredMethods()) {
                boolean hidden = each != c || Modifier.isPrivate(m.getModifiers());
                CHECK.due(each.getName() + "." + m.getName() + " bears a public name", hidden && names.contains(m.getName()) ? 1 : 0, 0);
                CHECK.due(m.getName() + " takes more than seven", m.getParameterCount() > 7 ? 1 : 0, 0);
            }
        }
        Set<String> constants = new TreeSet<>();
        for (Field f : c.getDeclaredFields()) {
            if (!Modifier.isPrivate(f.getModifiers())) {
                constants.add(f.getName());
            }
            boolean fixed = !Modifier.isStatic(f.getModifiers()) || Modifier.isFinal(f.getModifiers());
            CHECK.due(f.getName() + " is static and not final", fixed ? 0 : 1, 0);
        }
        same("constants", constants, new TreeSet<>(CONSTANTS));
        Constructor<?>[] made = c.getDeclaredConstructors();
        CHECK.due("constructors", made.length, 1);
        CHECK.due("the constructor is public", made[0].getModifiers(), Modifier.PUBLIC);
        CHECK.due("the constructor takes", made[0].getParameterCount(), 0);
        CHECK.due("NONE", TrackedLetters.NONE, -1);
        CHECK.due("UNKNOWN", TrackedLetters.UNKNOWN, -1001);
        CHECK.due("OUTSIDE", TrackedLetters.OUTSIDE, -1002);
        CHECK.due("STATE", TrackedLetters.STATE, -1003);
        CHECK.due("FULL", TrackedLetters.FULL, -1004);
    }

    private static String signature(Method m) {
        StringBuilder b = new StringBuilder(m.getReturnType().getName()).append(' ').append(m.getName()).append('(');
        for (Class<?> p : m.getParameterTypes()) {
            b.append(b.charAt(b.length() - 1) == '(' ? "" : ",").append(p.getName());
        }
        return b.append(')').toString();
    }

    private static Class<?>[] withClassesInside(Class<?> c) {
        Class<?>[] inside = c.getDeclaredClasses();
        Class<?>[] all = new Class<?>[inside.length + 1];
        System.arraycopy(inside, 0, all, 1, inside.length);
        all[0] = c;
        return all;
    }

    private static void classesInsideAreStatic() {
        for (Class<?> c : TrackedLetters.class.getDeclaredClasses()) {
            CHECK.due(c.getName() + " is static", Modifier.isStatic(c.getModifiers()) ? 1 : 0, 1);
            CHECK.due(c.getName() + " is seen from outside", c.getModifiers() & (Modifier.PUBLIC | Modifier.PROTECTED), 0);
        }
    }

    private static void classesAreSmall() {
        Class<?>[] all = withClassesInside(TrackedLetters.class);
        CHECK.due("more than twelve classes", all.length > 12 ? 1 : 0, 0);
        for (Class<?> c : all) {
            int fields = 0;
            for (Field f : c.getDeclaredFields()) {
                if (!Modifier.isStatic(f.getModifiers())) {
                    fields++;
                } else {
                    boolean constant = f.getType() == int.class && Modifier.isFinal(f.getModifiers());
                    CHECK.due(c.getName() + "." + f.getName() + " is static and no constant", constant ? 0 : 1, 0);
                }
            }
            CHECK.due(c.getName() + " has more than twenty fields", fields > 20 ? 1 : 0, 0);
        }
    }

    // A method ends at the first closing brace that stands as far in as its head.
    private static void methodsAreShort(String source) {
        String[] rows = source.split("\n");
        for (int i = 0; i < rows.length; i++) {
            if (rows[i].matches("( {4}| {8})[\\w ]+[\\w\\[\\]]* \\w+\\([^()]*\\) \\{")) {
                String end = rows[i].replaceAll("\\S.*", "") + "}";
                int last = i;
                while (last < rows.length && !rows[last].equals(end)) {
                    last++;
                }
                CHECK.due("more than sixty lines: " + rows[i].trim(), last - i + 1 > 60 ? 1 : 0, 0);
            }
        }
    }

    private static void sourceKeepsTheRules(String source) {
        methodsAreShort(source);
        String code = source.replaceAll("(?s)/\\*.*?\\*/", "").replaceAll("//[^\n]*", "");
        for (String word : BARRED) {
            CHECK.due("the source has '" + word + "'", code.contains(word) ? 1 : 0, 0);
        }
        for (String row : code.split("\n")) {
            boolean making = row.contains("new ") && !row.trim().matches("(private )?final \\S+ \\w+ = new .*;");
            CHECK.due("an object is made outside a constructor: " + row.trim(), making ? 1 : 0, 0);
        }
    }

    private static void same(String what, Set<String> got, Set<String> want) {
        if (!got.equals(want)) {
            System.out.println(what + " are " + got + ", due are " + want);
        }
        CHECK.due(what + " as due", got.equals(want) ? 1 : 0, 1);
    }
}
