/** Counts the answers that are not as due; every test of the project uses it. */
final class Due {
    private static int looked = 0;
    private static int wrong = 0;
    private static int sentences = 0;
    private static String sentence = "";

    private Due() { }

    /** From here on it is this sentence of the document that the answers are looked at for. */
    static void about(String words) {
        sentences++;
        sentence = "[" + words + "] ";
    }

    static void is(String call, long got, long want) {
        looked++;
        if (got != want) {
            wrong++;
            System.out.println(sentence + call + " answered " + got + ", due is " + want);
        }
    }

    /** Tells the letters of a text and answers what board() answers. */
    static int tell(SeeSawForFive x, String text) {
        for (int i = 0; i < text.length(); i++) {
            x.letter(text.charAt(i));
        }
        return x.board();
    }

    /** A new object with a board that has no fault. */
    static SeeSawForFive of(String text) {
        SeeSawForFive x = new SeeSawForFive();
        int statements = (int) text.chars().filter(c -> c == ';').count();
        is("board() of " + text, tell(x, text), statements);
        return x;
    }

    static void end(String name) {
        String about = sentences == 0 ? "" : " for " + sentences + " sentences";
        System.out.println(name + ": " + looked + " answers looked at" + about + ", " + wrong + " wrong");
        if (wrong != 0 || looked == 0) {
            System.exit(1);
        }
    }
}
