import java.io.IOException;
import java.lang.reflect.Constructor;
import java.lang.reflect.Field;
import java.lang.reflect.Method;
import java.lang.reflect.Modifier;
import java.nio.file.Files;
import java.nio.file.Path;
import java.util.Set;
import java.util.TreeSet;
import support.Check;

/** The public face, member by member, and what of LANGUAGE.md can be seen from the file's text. */
public final class FaceTest {
    private static final Path SOURCE = Path.of("src/main/java/LinkRewirer.java");

    private static final Set<String> FACE = Set.of(
            "LinkRewirer()", "int begin(int,int)", "int link(int,int)", "int unlink(int,int)",
            "int drawLink(int,int)", "int seek(int,int)", "int seekSome(int)", "int exchange(int,int)",
            "int leave(int)", "int enter(int)", "int set(int,int)", "int undo()", "int told(int)",
            "int node(int,int)", "int target(int,int)", "int distance(int,int)", "int route(int,int,int)",
            "int way(int,int)", "long paths(int,int)", "int measure(int)", "float mean()", "int keep(int)",
            "int back(int)", "int BAD", "int STATE", "int FULL", "int NONE");

    private static final String[] UNWANTED = {"import ", "try ", "catch", "throw ", "finally", "synchronized",
        "assert ", "->", "::", " double ", "System.", "Random", "static {", "new Object", "\t"};

    private static final Check CHECK = new Check();

    public static void main(String[] args) throws IOException {
        constants();
        face();
        privateNames();
        text();
        CHECK.end();
    }

    private static void constants() {
        CHECK.due("BAD", LinkRewirer.BAD, -1);
        CHECK.due("STATE", LinkRewirer.STATE, -2);
        CHECK.due("FULL", LinkRewirer.FULL, -3);
        CHECK.due("NONE", LinkRewirer.NONE, -9);
    }

    private static void face() {
        Class<?> type = LinkRewirer.class;
        CHECK.due("the class's modifiers", type.getModifiers(), Modifier.PUBLIC | Modifier.FINAL);
        Set<String> found = new TreeSet<>();
        for (Constructor<?> c : type.getDeclaredConstructors()) {
            add(found, c.getModifiers(), Modifier.PUBLIC, type.getName() + parameters(c.getParameterTypes()));
        }
        for (Method m : type.getDeclaredMethods()) {
            add(found, m.getModifiers(), Modifier.PUBLIC, m.getReturnType() + " " + m.getName() + parameters(m.getParameterTypes()));
        }
        for (Field f : type.getDeclaredFields()) {
            int constant = Modifier.PUBLIC | Modifier.STATIC | Modifier.FINAL;
            add(found, f.getModifiers(), constant, f.getType() + " " + f.getName());
        }
        CHECK.dueText("the face", found.toString(), new TreeSet<>(FACE).toString());
    }

    /** What is not private belongs to the face; a wrong modifier is told in the text. */
    private static void add(Set<String> found, int modifiers, int due, String text) {
        if (!Modifier.isPrivate(modifiers)) {
            found.add(modifiers == due ? text : Modifier.toString(modifiers) + " " + text);
        }
    }

    private static String parameters(Class<?>[] types) {
        StringBuilder text = new StringBuilder("(");
        for (Class<?> type : types) {
            text.append(text.length() == 1 ? "" : ",").append(type);
        }
        return text.append(")").toString();
    }

    private static void privateNames() {
        Set<String> names = new TreeSet<>();
        for (Method m : LinkRewirer.class.getMethods()) {
            names.add(m.getName());
        }
        checkNames(names, LinkRewirer.class);
        for (Class<?> inside : LinkRewirer.class.getDeclaredClasses()) {
            CHECK.due(inside + " is static", Modifier.isStatic(inside.getModifiers()) ? 1 : 0, 1);
            CHECK.due(inside + " is hidden", inside.getModifiers() & (Modifier.PUBLIC | Modifier.PROTECTED), 0);
            checkNames(names, inside);
        }
    }

    private static void checkNames(Set<String> names, Class<?> type) {
        for (Method m : type.getDeclaredMethods()) {
            boolean clash = !Modifier.isPublic(m.getModifiers()) && names.contains(m.getName());
            CHECK.due(m + " bears a public name", clash ? 1 : 0, 0);
        }
    }

    private static void text() throws IOException {
        String source = Files.readString(SOURCE);
        for (String unwanted : UNWANTED) {
            CHECK.due("place of '" + unwanted + "' in the file", source.indexOf(unwanted), -1);
        }
        CHECK.due("signs beyond ASCII", source.chars().filter(c -> c > 126).count(), 0);
    }
}
