import java.lang.reflect.Method;
import java.nio.file.Files;
import java.nio.file.Path;
import java.util.Arrays;
import java.util.regex.Matcher;
import java.util.regex.Pattern;

/** README.md's example, as it stands there, and its table: no call of the face is left out. */
public final class ReadmeTest {
    private static final Pattern TEXT = Pattern.compile("\"([^\"]+)\"\\.toCharArray\\(\\)");
    private static final Pattern CALL = Pattern.compile("(?m)^x\\.(\\w+)\\(([-0-9, ]*)\\);\\s*// (-?[0-9]+)");

    public static void main(String[] args) throws Exception {
        String readme = Files.readString(Path.of("README.md"));
        example(readme);
        table(readme);
        Due.end("ReadmeTest");
    }

    private static void example(String readme) throws Exception {
        SeeSawForFive x = new SeeSawForFive();
        Matcher text = TEXT.matcher(readme);
        Due.is("the example's text", text.find() ? 1 : 0, 1);
        for (char c : text.group(1).toCharArray()) {
            x.letter(c);
        }
        int calls = 0;
        Matcher call = CALL.matcher(readme);
        while (call.find()) {
            Due.is(call.group(1), answerOf(x, call.group(1), call.group(2)), Integer.parseInt(call.group(3)));
            calls++;
        }
        Due.is("the example's calls", calls, 5);
    }

    private static int answerOf(SeeSawForFive x, String name, String told) throws Exception {
        Object[] numbers = told.isBlank() ? new Object[0]
            : Arrays.stream(told.split(",")).map(n -> (Object) Integer.valueOf(n.trim())).toArray();
        Class<?>[] types = new Class<?>[numbers.length];
        Arrays.fill(types, int.class);
        return (Integer) SeeSawForFive.class.getMethod(name, types).invoke(x, numbers);
    }

    private static void table(String readme) {
        for (Method m : SeeSawForFive.class.getDeclaredMethods()) {
            if (java.lang.reflect.Modifier.isPublic(m.getModifiers())) {
                Due.is(m.getName() + " is told", readme.contains("`" + m.getName() + "`") ? 1 : 0, 1);
            }
        }
    }
}
