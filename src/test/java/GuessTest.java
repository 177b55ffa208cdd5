/** Promises 26 to 29: rules by which children guess, what parts them, which fit. */
public final class GuessTest {
    public static void main(String[] args) {
        guess();
        parting();
        guessed();
        Due.end("GuessTest");
    }

    private static void guess() {
        SeeSawForFive x = new SeeSawForFive();
        // heavy, then far, adds, multiplies, far
        all(x, 23, 14, 0, 0, 1, 0, 2);
        all(x, 14, 23, 2, 2, 1, 2, 0);
        all(x, 31, 34, 1, 2, 2, 2, 2);
        all(x, 34, 31, 1, 0, 0, 0, 0);
        all(x, 19, 55, 2, 2, 1, 2, 0);
        all(x, 62, 43, 0, 0, 0, 1, 2);
        all(x, 99, 99, 1, 1, 1, 1, 1);
        all(x, 11, 11, 1, 1, 1, 1, 1);
        int[] wrong = {10, 9, 1, 0, -11, 100, 111, 20, 90, Integer.MIN_VALUE, Integer.MAX_VALUE};
        for (int told : wrong) {
            Due.is("guess(0, " + told + ", 11)", x.guess(0, told, 11), -2);
            Due.is("guess(0, 11, " + told + ")", x.guess(0, 11, told), -2);
            Due.is("guessed(" + told + ", 11, 0)", x.guessed(told, 11, 0), -2);
            Due.is("guessed(11, " + told + ", 0)", x.guessed(11, told, 0), -2);
        }
        Due.is("guess(5, ..)", x.guess(5, 0, 0), -1);
        Due.is("guess(-1, ..)", x.guess(-1, 11, 11), -1);
        Due.is("count(12)", x.count(12), 4 * wrong.length);
        Due.is("count(11)", x.count(11), 2);
    }

    private static void all(SeeSawForFive x, int left, int right, int... want) {
        for (int rule = 0; rule < 5; rule++) {
            Due.is("guess(" + rule + ", " + left + ", " + right + ")", x.guess(rule, left, right), want[rule]);
        }
    }

    private static void parting() {
        SeeSawForFive x = new SeeSawForFive();
        Due.is("parting(0, 1, 0)", x.parting(0, 1, 0), 4 * 12);
        Due.is("parting(1, 0, 1)", x.parting(1, 0, 1), 1112);
        // far and then far: by weights unlike 12 * 16 less those of the same side 2 * 6 * 6
        Due.is("parting(4, 1, 0)", x.parting(4, 1, 0), 12 * 16 - 72);
        Due.is("parting(4, 1, 1)", x.parting(4, 1, 1), 1121);
        Due.is("parting(2, 3, 1)", x.parting(2, 3, 1), 1322);
        for (int rule = 0; rule < 5; rule++) {
            Due.is("parting of the same", x.parting(rule, rule, 0), 0);
            Due.is("parting of the same", x.parting(rule, rule, 1), -9);
        }
        Due.is("parting(5, ..)", x.parting(5, 0, 9), -1);
        Due.is("parting(.., -1, ..)", x.parting(0, -1, 9), -1);
        Due.is("parting(0, 0, 2)", x.parting(0, 0, 2), -2);
        Due.is("parting(0, 0, -1)", x.parting(0, 0, -1), -2);
    }

    private static void guessed() {
        SeeSawForFive x = new SeeSawForFive();
        Due.is("all fit", x.rules(), 31);
        Due.is("told 3", x.guessed(11, 11, 3), -2);
        Due.is("told -1", x.guessed(11, 11, -1), -2);
        Due.is("a guess", x.guessed(31, 34, 2), 1);
        Due.is("then far, adds, multiplies, far", x.rules(), 30);
        Due.is("a guess", x.guessed(62, 43, 0), 2);
        Due.is("then far, adds", x.rules(), 6);
        Due.is("a guess", x.guessed(14, 23, 2), 3);
        Due.is("then far", x.rules(), 2);
        Due.is("a guess", x.guessed(14, 23, 0), 4);
        Due.is("none", x.rules(), 0);
        for (int i = 5; i <= 8; i++) {
            Due.is("a guess", x.guessed(99, 99, 1), i);
        }
        Due.is("no room", x.guessed(99, 99, 1), -6);
        Due.is("what it is comes first", x.guessed(99, 99, 5), -2);
        Due.is("count(6)", x.count(6), 8);
    }
}
