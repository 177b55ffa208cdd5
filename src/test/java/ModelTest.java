import java.lang.reflect.Method;
import java.util.ArrayList;
import java.util.Arrays;
import java.util.Comparator;
import java.util.List;
import java.util.Random;

/** Runs of calls by fixed seeds, many of them wrong, compared with the model call by call. */
public final class ModelTest {
    private static final int RUNS = 300;
    private static final int CALLS = 512;
    private static final int[] EDGES = {Integer.MIN_VALUE, Integer.MAX_VALUE, -100, -7, 7, 99, 100, 255, 256};

    private final Random random;
    private final SeeSawForFive x = new SeeSawForFive();
    private final Model m = new Model();
    private final List<Method[]> methods;
    private int calls = 0;

    private ModelTest(int seed, List<Method[]> methods) {
        random = new Random(seed);
        this.methods = methods;
    }

    public static void main(String[] args) throws Exception {
        List<Method[]> methods = new ArrayList<>();
        for (Method a : SeeSawForFive.class.getDeclaredMethods()) {
            if (java.lang.reflect.Modifier.isPublic(a.getModifiers())) {
                methods.add(new Method[] {a, Model.class.getDeclaredMethod(a.getName(), a.getParameterTypes())});
            }
        }
        methods.sort(Comparator.comparing(two -> two[0].getName()));
        for (int seed = 0; seed < RUNS; seed++) {
            new ModelTest(seed, methods).run();
        }
        Due.end("ModelTest");
    }

    private void run() throws Exception {
        while (calls < CALLS) {
            if (random.nextInt(12) == 0) {
                tell(text());
            } else {
                Method[] two = methods.get(random.nextInt(methods.size()));
                boolean dear = List.of("level", "off", "first").contains(two[0].getName());
                if (!dear || random.nextInt(8) == 0) {
                    call(two, arguments(two[0]));
                }
            }
        }
    }

    private void call(Method[] two, Object[] with) throws Exception {
        if (calls < CALLS) {
            calls++;
            int got = (int) two[0].invoke(x, with);
            int want = (int) two[1].invoke(m, with);
            Due.is(two[0].getName() + Arrays.toString(with) + " as call " + calls, got, want);
        }
    }

    private void tell(String text) throws Exception {
        for (char c : text.toCharArray()) {
            call(method("letter"), new Object[] {(int) c});
        }
        call(method("board"), new Object[0]);
    }

    private Method[] method(String name) {
        return methods.stream().filter(two -> two[0].getName().equals(name)).findFirst().orElseThrow();
    }

    private String text() {
        StringBuilder s = new StringBuilder();
        int statements = random.nextInt(5);
        for (int i = 0; i <= statements; i++) {
            s.append(statement());
        }
        if (random.nextInt(8) == 0) {
            s.setCharAt(random.nextInt(s.length()), "bctso,;lr0459hz".charAt(random.nextInt(15)));
        }
        if (random.nextInt(12) == 0) {
            s.setLength(random.nextInt(s.length()));
        }
        return s.toString();
    }

    private String statement() {
        boolean wrong = random.nextInt(12) == 0;
        switch (random.nextInt(9)) {
            case 0: return "b" + (wrong ? random.nextInt(10) : 1 + random.nextInt(6)) + "," + number(99) + ";";
            case 1: return "t" + random.nextInt(wrong ? 10 : 5) + ";";
            case 2: return "o" + random.nextInt(wrong ? 10 : 2) + ";";
            case 3: case 4: case 5:
                return "c" + "chitbn".charAt(random.nextInt(6)) + number(wrong ? 99 : 60) + "," + random.nextInt(10) + ";";
            default:
                return "s" + random.nextInt(wrong ? 10 : 3) + (random.nextBoolean() ? "l" : "r")
                    + (wrong ? random.nextInt(10) : 1 + random.nextInt(5)) + ";";
        }
    }

    private String number(int most) {
        int n = random.nextInt(most + 1);
        return n < 10 && random.nextBoolean() ? "0" + n : "" + n;
    }

    private Object[] arguments(Method a) {
        Object[] with = new Object[a.getParameterCount()];
        for (int i = 0; i < with.length; i++) {
            with[i] = argument(a.getName(), i);
        }
        return with;
    }

    private int argument(String name, int i) {
        if (random.nextInt(40) == 0) {
            return EDGES[random.nextInt(EDGES.length)];
        }
        switch (name + i) {
            case "letter0": return random.nextInt(128);
            case "seat0": case "child0": case "first0": case "sit0": case "up0": case "highest0": case "thrown3":
                return random.nextInt(4) - (random.nextInt(20) == 0 ? 1 : 0);
            case "sit1": case "bucket0": case "go0": case "go2": case "next0": case "next1": case "thrown2":
                return random.nextInt(13) - 6;
            case "orders0": case "order0": return random.nextInt(500) - 5;
            case "go1": return random.nextInt(104) - 2;
            case "thrown0": return random.nextInt(64) - 1;
            case "thrown1": return random.nextInt(23) - 1;
            case "guess1": case "guess2": case "guessed0": case "guessed1": return 9 + random.nextInt(93);
            case "seeds0": return random.nextInt(23) - 1;
            case "seeds1": return random.nextInt();
            case "row0": return random.nextInt(3) == 0 ? 7 : random.nextInt(16) - 1;
            case "count0": return random.nextInt(20) - 1;
            case "notch0": return random.nextInt(7) - 1;
            case "guess0": case "parting0": case "parting1": case "order1": return random.nextInt(7) - 1;
            default: return random.nextInt(4) - (random.nextInt(8) == 0 ? 1 : 0);
        }
    }
}
