import java.util.Arrays;

/** The sentences of DOC.md on edges, one by one: guesses, seeds, the row, the image, counts, promises 26 to 35. */
public final class RulesEdgesTest {
    private static final int MIN = Integer.MIN_VALUE;
    private static final int MAX = Integer.MAX_VALUE;
    private static final int[] NOT_TOLD = {10, 9, 1, 0, -1, -11, -99, 20, 50, 90, 100, 101, 111, 1011, MIN, MAX};

    public static void main(String[] args) {
        guessEdges();
        refusedGuess();
        partingEdges();
        refusedParting();
        guessesAreFull();
        refusedGuessed();
        rulesThatFit();
        refusedSeeds();
        draws();
        drawsByLength();
        drawsGoOn();
        takenDraws();
        seedsChangeNothing();
        rowEdges();
        judged();
        judgedRowsEnd();
        noImage();
        imageOfNobody();
        imageKeepsAll();
        imageLeavesOut();
        imageAnew();
        counts();
        lastCalls();
        Due.end("RulesEdgesTest");
    }

    private static void guesses(SeeSawForFive x, int left, int right, int... want) {
        for (int rule = 0; rule < 5; rule++) {
            Due.is("guess(" + rule + ", " + left + ", " + right + ")", x.guess(rule, left, right), want[rule]);
        }
    }

    private static void guessEdges() {
        SeeSawForFive x = new SeeSawForFive();
        Due.about("26: 11 .. 99");
        guesses(x, 11, 99, 2, 2, 2, 2, 2);
        guesses(x, 99, 11, 0, 0, 0, 0, 0);
        guesses(x, 11, 11, 1, 1, 1, 1, 1);
        guesses(x, 99, 99, 1, 1, 1, 1, 1);
        guesses(x, 19, 91, 2, 2, 1, 1, 0);
        guesses(x, 91, 19, 0, 0, 1, 1, 2);
        Due.about("26: THEN FAR: if these are alike by feet");
        guesses(x, 51, 59, 1, 2, 2, 2, 2);
        guesses(x, 59, 51, 1, 0, 0, 0, 0);
        Due.about("26: alike by one rule, not by another");
        guesses(x, 15, 51, 2, 2, 1, 1, 0);
        guesses(x, 26, 34, 2, 2, 0, 1, 0);
        guesses(x, 15, 33, 2, 2, 1, 2, 0);
    }

    private static void refusedGuess() {
        SeeSawForFive x = new SeeSawForFive();
        Due.about("26: -1 RULE");
        for (int rule : new int[] {-1, 5, MIN, MAX}) {
            Due.is("rule " + rule, x.guess(rule, 11, 11), -1);
            Due.is("rule ahead of -2", x.guess(rule, 10, 100), -1);
        }
        Due.about("26: -2 (11 .. 99, no 0)");
        for (int told : NOT_TOLD) {
            Due.is("left " + told, x.guess(4, told, 11), -2);
            Due.is("right " + told, x.guess(4, 11, told), -2);
        }
        Due.is("both, counted once", x.guess(0, 0, 0), -2);
        Due.is("count(12)", x.count(12), 2 * NOT_TOLD.length + 1);
        Due.is("count(11)", x.count(11), 8);
        for (int told = 11; told <= 99; told++) {
            Due.is("left " + told, x.guess(4, told, 11) == -2 ? 1 : 0, told % 10 == 0 ? 1 : 0);
        }
    }

    private static void partingEdges() {
        SeeSawForFive x = new SeeSawForFive();
        Due.about("27: none, -9");
        for (int rule = 0; rule < 5; rule++) {
            Due.is("how many", x.parting(rule, rule, 0), 0);
            Due.is("the first", x.parting(rule, rule, 1), -9);
        }
        Due.about("27: all a, f, b, g of 1 .. 4");
        // alike by weights (4 * 4 * 4), not by feet (of 16, 4)
        Due.is("0 and 1", x.parting(0, 1, 0), 48);
        // weights and feet say the same: 4 * 4 alike by both, 2 * 6 * 6 unlike
        Due.is("0 and 4", x.parting(0, 4, 0), 256 - 16 - 72);
        Due.is("the first of them: 1 1 1 2", x.parting(0, 4, 1), 1112);
        Due.is("1 and 4: 1 1 2 1", x.parting(1, 4, 1), 1121);
        Due.is("2 and 3: 1 3 2 2", x.parting(2, 3, 1), 1322);
        Due.about("27: whichever is told first");
        for (int one = 0; one < 5; one++) {
            for (int other = 0; other < 5; other++) {
                Due.is("how many", x.parting(one, other, 0), x.parting(other, one, 0));
                Due.is("the first", x.parting(one, other, 1), x.parting(other, one, 1));
            }
        }
    }

    private static void refusedParting() {
        SeeSawForFive x = new SeeSawForFive();
        Due.about("27: -1 either");
        for (int rule : new int[] {-1, 5, MIN, MAX}) {
            Due.is("parting(" + rule + ", 0, 0)", x.parting(rule, 0, 0), -1);
            Due.is("parting(4, " + rule + ", 2)", x.parting(4, rule, 2), -1);
            Due.is("both", x.parting(rule, rule, -1), -1);
        }
        Due.about("27: -2");
        for (int what : new int[] {-1, 2, MIN, MAX}) {
            Due.is("parting(0, 4, " + what + ")", x.parting(0, 4, what), -2);
            Due.is("parting(4, 4, " + what + ")", x.parting(4, 4, what), -2);
        }
    }

    private static void guessesAreFull() {
        SeeSawForFive x = new SeeSawForFive();
        Due.about("28: -6 8");
        for (int i = 1; i <= 8; i++) {
            Due.is("guess " + i, x.guessed(11, 99, 2), i);
        }
        Due.is("guess 9", x.guessed(11, 99, 0), -6);
        Due.is("it did not come", x.rules(), 31);
        Due.is("-2 ahead of it", x.guessed(10, 99, 2), -2);
        Due.is("-2 ahead of it", x.guessed(11, 99, 3), -2);
        Due.is("count(6)", x.count(6), 8);
        Due.about("28: the eighth counts");
        SeeSawForFive last = new SeeSawForFive();
        for (int i = 1; i <= 7; i++) {
            last.guessed(11, 99, 2);
        }
        last.guessed(11, 12, 1);
        Due.is("HEAVY alone", last.rules(), 1);
    }

    private static void refusedGuessed() {
        SeeSawForFive x = new SeeSawForFive();
        Due.about("28: -2 (as guess(); told 0 .. 2)");
        for (int told : NOT_TOLD) {
            Due.is("left " + told, x.guessed(told, 11, 1), -2);
            Due.is("right " + told, x.guessed(11, told, 1), -2);
        }
        for (int told : new int[] {-1, 3, MIN, MAX}) {
            Due.is("told " + told, x.guessed(11, 11, told), -2);
        }
        Due.is("count(6)", x.count(6), 0);
        Due.is("edges come", x.guessed(11, 99, 0), 1);
        Due.is("edges come", x.guessed(99, 11, 2), 2);
    }

    private static void rulesThatFit() {
        Due.about("29: without a GUESS all FIT");
        Due.is("rules()", new SeeSawForFive().rules(), 31);
        Due.about("29: each RULE alone, by its bit");
        alone(1, 11, 12, 1, 11, 21, 2);
        alone(2, 11, 12, 2, 12, 21, 2);
        alone(4, 13, 22, 1, 26, 34, 0);
        alone(8, 13, 22, 2, 26, 34, 1);
        alone(16, 11, 21, 1, 11, 12, 2);
        Due.about("29: none FITS");
        SeeSawForFive none = new SeeSawForFive();
        none.guessed(11, 99, 0);
        Due.is("rules()", none.rules(), 0);
    }

    private static void alone(int bit, int left, int right, int told, int left2, int right2, int told2) {
        SeeSawForFive x = new SeeSawForFive();
        x.guessed(left, right, told);
        x.guessed(left2, right2, told2);
        Due.is("rules()", x.rules(), bit);
    }

    private static void refusedSeeds() {
        SeeSawForFive x = new SeeSawForFive();
        Due.about("30: -4");
        for (int n : new int[] {0, -1, MIN}) {
            Due.is("seeds(" + n + ", 0, 2)", x.seeds(n, 0, 2), -4);
        }
        Due.about("30: -6 20");
        for (int n : new int[] {21, MAX}) {
            Due.is("seeds(" + n + ", 0, 2)", x.seeds(n, 0, 2), -6);
        }
        Due.about("30: -2");
        for (int what : new int[] {-1, 2, MIN, MAX}) {
            Due.is("seeds(1, 0, " + what + ")", x.seeds(1, 0, what), -2);
        }
        Due.about("30: 1 .. 20 times");
        Due.is("once", x.seeds(1, 0, 0), 1);
        Due.is("twenty times", x.seeds(20, 0, 0), 20);
        Due.about("30: neither LEVEL nor RIGHT is LEFT");
        SeeSawForFive left = Due.of("t4;b6,99;");
        Due.is("level", left.seeds(20, 5, 0), 0);
        Due.is("right", left.seeds(20, 5, 1), 0);
        left.notch(0);
        Due.is("right", left.seeds(20, 5, 1), 20);
    }

    /** A board on which the first of the draws is LEVEL on one SEAT alone, and RIGHT is down beyond it. */
    private static SeeSawForFive nought(int length, int seat, String more) {
        int own = Math.abs(seat) - 1;
        return Due.of("t" + (seat < 0 ? 1 : 3) + ";b" + length + "," + own + ";cc1,0;" + more);
    }

    private static void firstDraw(int length, int z, int seat) {
        for (int s = -length; s <= length; s++) {
            if (s != 0) {
                SeeSawForFive x = nought(length, s, "");
                Due.is("seed " + z + " is level by " + s, x.seeds(1, z, 0), s == seat ? 1 : 0);
                Due.is("seed " + z + " is right of " + s, x.seeds(1, z, 1), s < seat ? 1 : 0);
            }
        }
    }

    private static void draws() {
        Due.about("30: a DRAW below 2 times LENGTH, SEATS from the left");
        int[] seeds = {-13, -1, -8, -2, -9, 3, -10, 2, -11, 1, -12, 0};
        int[] seats = {-6, -5, -4, -3, -2, -1, 1, 2, 3, 4, 5, 6};
        for (int i = 0; i < seeds.length; i++) {
            firstDraw(6, seeds[i], seats[i]);
        }
        Due.about("30: z wraps (an int)");
        firstDraw(6, MAX, -5);
        firstDraw(6, MIN, 6);
        firstDraw(6, 123456789, 2);
        Due.about("30: z without its sign's bit by 256, cut");
        // z becomes 0, 255, 256, the greatest int, and the same with the sign's bit
        firstDraw(6, 634785765, -6);
        firstDraw(6, 122584096, -6);
        firstDraw(6, 103732453, -5);
        firstDraw(6, -1493846240, 2);
        firstDraw(6, -1512697883, -6);
        firstDraw(6, -2024899552, -6);
        firstDraw(6, -2043751195, -5);
        firstDraw(6, 653637408, 2);
    }

    private static void drawsByLength() {
        Due.about("30: DRAWS by each LENGTH");
        for (int length = 1; length <= 6; length++) {
            for (int z : new int[] {0, 7, -7, -1493846240, 653637408, MAX, MIN, -1}) {
                long next = (z * 1664525L + 1013904223L) & 0xffffffffL;
                int draw = (int) (next % 2147483648L / 256 % (2 * length));
                firstDraw(length, z, draw < length ? draw - length : draw - length + 1);
            }
        }
    }

    private static void drawsGoOn() {
        Due.about("30: the next time goes on with z");
        // draws 11, 9, 6 of seed 0: 6, 4, 1
        SeeSawForFive four = nought(6, 4, "");
        int[] level = {0, 1, 1};
        int[] right = {1, 1, 1};
        for (int n = 1; n <= 3; n++) {
            Due.is("level", four.seeds(n, 0, 0), level[n - 1]);
            Due.is("right", four.seeds(n, 0, 1), right[n - 1]);
        }
        SeeSawForFive one = nought(6, 1, "");
        Due.is("level", one.seeds(3, 0, 0), 1);
        Due.is("right", one.seeds(3, 0, 1), 2);
        Due.about("30: the CHILDREN by numbers");
        // child 0 on 6, child 1 on 4: 5 + 60 * 3, or 3 + 60 * 5 the other way
        SeeSawForFive two = Due.of("t3;b6,99;cc1,0;cc60,0;");
        Due.is("right of 99", two.seeds(1, 0, 1), 1);
        SeeSawForFive exact = Due.of("t3;b6,34;cc4,0;cc5,0;");
        // 4 * 5 + 5 * 3 - 34 is 1; 5 * 5 + 4 * 3 - 34 is 3; own 35 is level
        Due.is("right of 34", exact.seeds(1, 0, 1), 1);
        Due.is("board()", Due.tell(exact, "b6,35;"), 1);
        Due.is("level by 35", exact.seeds(1, 0, 0), 1);
    }

    private static void takenDraws() {
        Due.about("30: a taken one: it stays off");
        // draws 9, 9, 9 of seed 1: child 0 on 4 alone
        SeeSawForFive x = nought(6, 4, "cc60,0;cc60,0;");
        Due.is("level by child 0 alone", x.seeds(1, 1, 0), 1);
        Due.is("right", x.seeds(1, 1, 1), 0);
        Due.about("30: all get off ahead of it");
        Due.is("they sit", x.sit(0, -6) + x.sit(1, 4) + x.sit(2, 5), 0);
        Due.is("level by child 0 alone", x.seeds(1, 1, 0), 1);
        Due.about("30: more CHILDREN than SEATS");
        SeeSawForFive five = Due.of("b1,0;cc1,0;cc1,0;cc1,0;cc1,0;cc1,0;");
        int level = 0;
        int right = 0;
        long z = 99;
        for (int i = 0; i < 20; i++) {
            boolean[] taken = new boolean[2];
            for (int child = 0; child < 5; child++) {
                z = (z * 1664525L + 1013904223L) & 0xffffffffL;
                taken[(int) (z % 2147483648L / 256 % 2)] = true;
            }
            level += taken[0] == taken[1] ? 1 : 0;
            right += taken[1] && !taken[0] ? 1 : 0;
        }
        Due.is("level", five.seeds(20, 99, 0), level);
        Due.is("right", five.seeds(20, 99, 1), right);
    }

    private static void seedsChangeNothing() {
        Due.about("30: how often it is so; who sits now sits on");
        SeeSawForFive x = Due.of("b5,1;cc5,0;ch6,0;ci7,0;s0l5;s2r5;");
        int often = x.seeds(20, 3, 0);
        Due.is("the same again", x.seeds(20, 3, 0), often);
        int[] seats = {-5, 99, 5};
        for (int i = 0; i < 3; i++) {
            Due.is("seat(" + i + ")", x.seat(i), seats[i]);
        }
        Due.about("30: by NOTCH and board as now");
        SeeSawForFive now = Due.of("cc1,0;");
        // seed 0 draws 6
        Due.is("right", now.seeds(1, 0, 1), 1);
        now.notch(4);
        Due.is("board()", Due.tell(now, "b6,2;"), 1);
        Due.is("level by 4 - 2 * 2", now.seeds(1, 0, 0), 1);
        Due.is("a fault behind more weight", Due.tell(now, "b1,9;cc60,0;t9;"), -2012);
        Due.is("it did not come", now.seeds(1, 0, 0), 1);
        now.notch(3);
        Due.is("5 - 2", now.seeds(1, 0, 0), 0);
        now.image();
        Due.is("board()", Due.tell(now, "b6,5;"), 1);
        Due.is("5 - 5", now.seeds(1, 0, 0), 1);
        now.on();
        Due.is("5 - 2 again", now.seeds(1, 0, 0), 0);
    }

    private static void rowEdges() {
        SeeSawForFive x = new SeeSawForFive();
        Due.about("31: -4");
        Due.is("row(-1)", x.row(-1), -4);
        Due.is("row(MIN)", x.row(MIN), -4);
        Due.about("31: -6 13");
        Due.is("row(14)", x.row(14), -6);
        Due.is("row(MAX)", x.row(MAX), -6);
        Due.about("31: 0 .. 13, 5 at most");
        int[] fine = {0, 13, 7, 1, 12};
        for (int i = 0; i < 5; i++) {
            Due.is("row(" + fine[i] + ")", x.row(fine[i]), i + 1);
        }
        Due.is("row(0)", x.row(0), -6);
        Due.is("row(14)", x.row(14), -6);
        Due.is("row(-1)", x.row(-1), -4);
        Due.is("count(7)", x.count(7), 5);
        Due.is("count(14)", x.count(14), 3);
        Due.is("count(16)", x.count(16), 4);
    }

    private static void judge(SeeSawForFive x, int want, int... row) {
        for (int i = 0; i < row.length; i++) {
            Due.is("row(" + row[i] + ")", x.row(row[i]), i + 1);
        }
        Due.is("judge() of " + Arrays.toString(row), x.judge(), want);
        Due.is("count(7)", x.count(7), 0);
    }

    private static void judged() {
        SeeSawForFive x = Due.of("cc1,0;cc1,0;cc1,0;s0l6;s2r6;");
        Due.about("32: -9");
        judge(x, -9, 1, 7, 13);
        Due.about("32: 7 is off");
        judge(x, 1, 1, 8, 13);
        judge(x, 0, 7, 7, 13);
        judge(x, 2, 1, 7, 7);
        Due.about("32: the first CHILD that does not sit so");
        judge(x, 0, 2, 8, 12);
        judge(x, 0, 0, 7, 13);
        judge(x, 2, 1, 7, 12);
        judge(x, 2, 1, 7, 0);
        Due.about("32: it sits so, however it came there");
        x.sit(1, -1);
        judge(x, -9, 1, 6, 13);
        x.sit(1, 0);
        judge(x, -9, 1, 7, 13);
    }

    private static void judgedRowsEnd() {
        SeeSawForFive x = Due.of("cc1,0;cc1,0;s0l6;");
        Due.about("32: where it ends, if too short");
        judge(x, 0);
        judge(x, 1, 1);
        Due.about("32: how many CHILDREN, if too long");
        judge(x, 2, 1, 7, 7);
        judge(x, 2, 1, 7, 0, 0, 0);
        Due.about("32: the first CHILD ahead of the end");
        judge(x, 0, 7);
        judge(x, 1, 1, 8, 8);
        Due.about("32: nobody");
        judge(new SeeSawForFive(), -9);
        judge(new SeeSawForFive(), 0, 7);
        judge(new SeeSawForFive(), 0, 7, 7, 7, 7, 7);
        Due.about("32: five");
        SeeSawForFive five = Due.of("cc1,0;cc1,0;cc1,0;cc1,0;cc1,0;s4r1;");
        judge(five, -9, 7, 7, 7, 7, 8);
        judge(five, 4, 7, 7, 7, 7, 7);
        judge(five, 4, 7, 7, 7, 7);
        Due.about("32: whichever it answers, there is room again");
        for (int i = 1; i <= 5; i++) {
            Due.is("row(7)", five.row(7), i);
        }
    }

    private static void noImage() {
        SeeSawForFive x = new SeeSawForFive();
        Due.about("34: -3 there is none");
        Due.is("on()", x.on(), -3);
        Due.is("board()", Due.tell(x, "cc1,0;"), 1);
        Due.is("on()", x.on(), -3);
        Due.is("count(0)", x.count(0), 1);
        Due.is("count(13)", x.count(13), 2);
    }

    private static void imageOfNobody() {
        Due.about("33: THE IMAGE of nobody");
        SeeSawForFive x = new SeeSawForFive();
        Due.is("image()", x.image(), 0);
        Due.is("board()", Due.tell(x, "b1,9;t4;cc9,9;s0r1;"), 4);
        Due.is("on()", x.on(), 0);
        int[] want = {0, 0, 6, 0, 2, 0, 0, 0, 0};
        for (int what = 0; what < want.length; what++) {
            Due.is("count(" + what + ")", x.count(what), want[what]);
        }
        Due.is("child(0, 0)", x.child(0, 0), -1);
        Due.is("sum()", x.sum(), 0);
        Due.is("bucket(6)", x.bucket(6), 0);
    }

    private static void imageKeepsAll() {
        Due.about("33: all that is told, who sits where, GOES, GUESSES");
        SeeSawForFive x = Due.of("b5,3;t1;cc10,1;ch20,2;ci30,3;ct40,4;cb50,5;s0l5;s4r5;");
        x.go(1, 30, -1, 1);
        x.guessed(11, 12, 1);
        Due.is("image()", x.image(), 5);
        Due.is("board()", Due.tell(x, "o0;o4;s1l1;s2r1;b1,99;t3;"), 6);
        for (int i = 0; i < 9; i++) {
            x.go(1, 0, 0, 0);
        }
        for (int i = 0; i < 7; i++) {
            x.guessed(11, 99, 0);
        }
        Due.is("on()", x.on(), 5);
        int[] want = {5, 2, 5, 3, 1, 1, 1, 0, 0};
        for (int what = 0; what < want.length; what++) {
            Due.is("count(" + what + ")", x.count(what), want[what]);
        }
        int[] seats = {-5, 99, 99, 99, 5};
        for (int i = 0; i < 5; i++) {
            Due.is("kind", x.child(i, 0), i);
            Due.is("weight", x.child(i, 1), 10 * (i + 1));
            Due.is("legs", x.child(i, 2), i + 1);
            Due.is("seat", x.seat(i), seats[i]);
        }
        Due.is("own 3: 2 w - 30 * 0 + 3", x.fitting(0), 0);
        x.notch(2);
        Due.is("fitting(1)", x.fitting(1), 30);
        Due.is("rules()", x.rules(), 1);
        Due.is("there is room for 9 GOES", x.go(1, 30, -1, 1), 2);
        Due.is("there is room for 7 GUESSES", x.guessed(11, 12, 1), 2);
    }

    private static void imageLeavesOut() {
        Due.about("33: not the ROW, letters, REFUSALS");
        SeeSawForFive x = Due.of("cc1,0;");
        x.row(7);
        x.letter('t');
        x.row(-1);
        x.image();
        x.row(7);
        x.letter('1');
        x.row(14);
        x.judge();
        x.row(1);
        x.row(2);
        x.row(3);
        Due.is("on()", x.on(), 1);
        Due.is("count(7)", x.count(7), 3);
        Due.is("count(8)", x.count(8), 2);
        Due.is("count(14)", x.count(14), 1);
        Due.is("count(16)", x.count(16), 1);
        x.letter(';');
        Due.is("the letters are whole", x.board(), 1);
        Due.is("notch", x.count(4), 1);
        Due.is("the row is whole", x.judge(), 0);
    }

    private static void imageAnew() {
        Due.about("34: from it all is as then, as often as one likes");
        SeeSawForFive x = Due.of("cc1,0;s0l1;");
        x.image();
        for (int i = 0; i < 3; i++) {
            x.sit(0, 2 + i);
            Due.is("on()", x.on(), 1);
            Due.is("seat(0)", x.seat(0), -1);
        }
        Due.about("33: the last IMAGE that was taken");
        x.sit(0, 6);
        Due.is("board()", Due.tell(x, "cc1,0;"), 1);
        Due.is("image()", x.image(), 2);
        x.sit(0, 0);
        Due.is("on()", x.on(), 2);
        Due.is("seat(0)", x.seat(0), 6);
        Due.about("34: behind it a CHILD more sits nowhere");
        SeeSawForFive y = Due.of("cc1,0;");
        y.image();
        Due.is("board()", Due.tell(y, "ch2,3;s1l3;"), 2);
        y.on();
        Due.is("board()", Due.tell(y, "ci4,5;"), 1);
        Due.is("seat(1)", y.seat(1), 99);
        Due.is("child(1, 0)", y.child(1, 0), 2);
    }

    private static void counts() {
        Due.about("35: -9 for another what");
        SeeSawForFive x = new SeeSawForFive();
        for (int what : new int[] {-1, 9, 10, 17, 18, 100, MIN, MAX}) {
            Due.is("count(" + what + ")", x.count(what), -9);
        }
        Due.about("35: 11 .. 16 REFUSALS -1 .. -6; -9 is none");
        for (int what = 11; what <= 16; what++) {
            Due.is("count(" + what + ")", x.count(what), 0);
        }
        x.up(0);
        x.comesDown(9);
        x.comesDown(9);
        x.on();
        x.on();
        x.on();
        x.row(-1);
        x.row(99);
        x.seat(0);
        x.first(0, 0);
        int[] want = {3, 2, 3, 1, 0, 1};
        for (int i = 0; i < 6; i++) {
            Due.is("count(" + (11 + i) + ")", x.count(11 + i), want[i]);
        }
        Due.about("35: how many sit");
        SeeSawForFive five = Due.of("cc1,0;cc1,0;cc1,0;cc1,0;cc1,0;");
        for (int i = 0; i < 5; i++) {
            Due.is("count(1)", five.count(1), i);
            five.sit(i, i + 1);
        }
        Due.is("count(1)", five.count(1), 5);
        five.sit(0, 0);
        Due.is("count(1)", five.count(1), 4);
    }

    private static void lastCalls() {
        Due.about("an object is used for at most 512 calls: the last is as the first");
        SeeSawForFive x = new SeeSawForFive();
        for (int i = 1; i <= 510; i++) {
            Due.is("refusal " + i, x.row(-1), -4);
        }
        Due.is("call 511", x.count(14), 510);
        Due.is("call 512", x.level(), 1);
    }
}
