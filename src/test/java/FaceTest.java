import java.lang.reflect.Constructor;
import java.lang.reflect.Field;
import java.lang.reflect.Method;
import java.lang.reflect.Modifier;
import java.nio.file.Files;
import java.nio.file.Path;
import java.util.Set;
import java.util.TreeSet;
import java.util.regex.Matcher;
import java.util.regex.Pattern;

/** The face of the class, and what of LANGUAGE.md can be seen from outside. */
public final class FaceTest {
    private static final String[] FACE = {
        "letter 1", "board 0", "child 2", "seat 1", "sit 2", "notch 1", "sum 0", "down 0", "level 0", "first 2",
        "off 0", "bucket 1", "notchBest 0", "orders 1", "order 2", "leastBang 0", "go 4", "fitting 1", "next 2",
        "inertia 0", "comesDown 1", "up 1", "thrown 5", "highest 1", "guess 3", "parting 3", "guessed 3",
        "rules 0", "seeds 3", "row 1", "judge 0", "image 0", "on 0", "count 1"};

    public static void main(String[] args) throws Exception {
        face();
        nested();
        words();
        Due.end("FaceTest");
    }

    private static void face() {
        Set<String> want = new TreeSet<>(Set.of(FACE));
        Set<String> got = new TreeSet<>();
        Set<String> hidden = new TreeSet<>();
        for (Method m : SeeSawForFive.class.getDeclaredMethods()) {
            if (Modifier.isPublic(m.getModifiers())) {
                got.add(m.getName() + " " + m.getParameterCount());
                Due.is(m + " answers an int", m.getReturnType() == int.class ? 1 : 0, 1);
                Due.is(m + " is not static", Modifier.isStatic(m.getModifiers()) ? 1 : 0, 0);
            } else {
                Due.is(m + " is private", Modifier.isPrivate(m.getModifiers()) ? 1 : 0, 1);
                hidden.add(m.getName());
            }
        }
        Due.is("the face " + got, got.equals(want) ? 1 : 0, 1);
        for (String method : FACE) {
            Due.is("private " + method, hidden.contains(method.split(" ")[0]) ? 1 : 0, 0);
        }
        for (Field f : SeeSawForFive.class.getDeclaredFields()) {
            Due.is(f + " is private", Modifier.isPrivate(f.getModifiers()) ? 1 : 0, 1);
        }
        Constructor<?>[] made = SeeSawForFive.class.getDeclaredConstructors();
        Due.is("constructors", made.length, 1);
        Due.is("its parameters", made[0].getParameterCount(), 0);
        Due.is("it is public", Modifier.isPublic(made[0].getModifiers()) ? 1 : 0, 1);
        Due.is("final", Modifier.isFinal(SeeSawForFive.class.getModifiers()) ? 1 : 0, 1);
        Due.is("public", Modifier.isPublic(SeeSawForFive.class.getModifiers()) ? 1 : 0, 1);
    }

    private static void nested() {
        Class<?>[] inside = SeeSawForFive.class.getDeclaredClasses();
        Due.is("at most twelve classes", inside.length + 1 <= 12 ? 1 : 0, 1);
        for (Class<?> c : inside) {
            Due.is(c + " is static", Modifier.isStatic(c.getModifiers()) ? 1 : 0, 1);
            for (Method m : c.getDeclaredMethods()) {
                for (String method : FACE) {
                    Due.is(m + " has a name of its own", m.getName().equals(method.split(" ")[0]) ? 1 : 0, 0);
                }
                Due.is(m + " parameters", m.getParameterCount() <= 7 ? 1 : 0, 1);
            }
        }
    }

    private static void words() throws Exception {
        String source = Files.readString(Path.of("src/main/java/SeeSawForFive.java"));
        String code = source.replaceAll("(?s)/\\*.*?\\*/", "").replaceAll("//[^\n]*", "");
        Pattern ruledOut = Pattern.compile("\\b(throw|throws|try|catch|finally|synchronized|assert|import|package"
            + "|protected|Exact|Random|Thread|System\\.(?!arraycopy))\\b|->|::");
        Matcher m = ruledOut.matcher(code);
        while (m.find()) {
            Due.is("the word " + m.group(), 1, 0);
        }
        Due.is("signs beyond 127", source.chars().filter(c -> c > 127).count(), 0);
    }
}
