/** The sentences of DOC.md on edges, one by one: the board told in letters, and promises 1 to 9. */
public final class BoardEdgesTest {
    private static final int MIN = Integer.MIN_VALUE;
    private static final int MAX = Integer.MAX_VALUE;
    private static final String DIGITS = "0123456789";
    private static final String VERBS = "btcso";

    public static void main(String[] args) {
        newObject();
        letters();
        numbersOfBoards();
        numbersOfChildren();
        roomForChildren();
        seatsOfStatements();
        lengthAndSitters();
        lettersThatGoOn();
        whatLacks();
        faults();
        child();
        seat();
        sit();
        notch();
        turns();
        sums();
        Due.end("BoardEdgesTest");
    }

    private static void newObject() {
        Due.about("1: six FEET either way, nobody");
        SeeSawForFive x = new SeeSawForFive();
        Due.is("bucket(6)", x.bucket(6), 0);
        Due.is("bucket(-6)", x.bucket(-6), 0);
        Due.is("bucket(7)", x.bucket(7), -1);
        Due.is("bucket(-7)", x.bucket(-7), -1);
        Due.is("count(0)", x.count(0), 0);
        Due.is("count(1)", x.count(1), 0);
        Due.is("count(2)", x.count(2), 6);
        Due.about("LENGTH 6, OWN 0, NOTCH 2 at first");
        Due.is("count(3)", x.count(3), 0);
        Due.is("notch(2)", x.notch(2), 2);
        Due.about("one object is nothing to another");
        Due.tell(x, "b1,9;cc1,1;");
        Due.is("count(0) of another", new SeeSawForFive().count(0), 0);
        Due.is("count(2) of another", new SeeSawForFive().count(2), 6);
    }

    private static void letters() {
        Due.about("2: a letter (0 .. 255)");
        SeeSawForFive x = new SeeSawForFive();
        Due.is("letter(0)", x.letter(0), 1);
        Due.is("letter(255)", x.letter(255), 2);
        Due.about("2: -4");
        Due.is("letter(-1)", x.letter(-1), -4);
        Due.is("letter(MIN)", x.letter(MIN), -4);
        Due.about("2: -6 255");
        Due.is("letter(256)", x.letter(256), -6);
        Due.is("letter(MAX)", x.letter(MAX), -6);
        Due.about("2: refused letters do not come");
        Due.is("count(8)", x.count(8), 2);
        Due.is("letter", x.letter('b'), 3);
        Due.about("2: -6 80");
        SeeSawForFive full = new SeeSawForFive();
        String text = "t2;".repeat(25) + "b6,0;";
        for (int i = 0; i < 80; i++) {
            Due.is("letter " + (i + 1), full.letter(text.charAt(i)), i + 1);
        }
        Due.is("letter 81", full.letter('t'), -6);
        Due.is("letter 81, 256", full.letter(256), -6);
        Due.is("letter 81, -1", full.letter(-1), -4);
        Due.is("count(16)", full.count(16), 2);
        Due.is("count(14)", full.count(14), 1);
        Due.is("count(8)", full.count(8), 80);
        Due.about("3: the letters are no more, so there is room again");
        Due.is("board()", full.board(), 26);
        Due.is("count(8)", full.count(8), 0);
        Due.is("letter", full.letter('t'), 1);
    }

    private static void numbersOfBoards() {
        Due.about("LENGTH 1 .. 6");
        for (int length = 0; length <= 9; length++) {
            boolean fine = length >= 1 && length <= 6;
            SeeSawForFive x = new SeeSawForFive();
            Due.is("b" + length, Due.tell(x, "b" + length + ",0;"), fine ? 1 : -2000);
            Due.is("length", x.count(2), fine ? length : 6);
            Due.is("farthest", x.bucket(x.count(2)), 0);
            Due.is("too far", x.bucket(x.count(2) + 1), -1);
        }
        Due.about("LENGTH is one digit");
        Due.is("b06", board("b06,0;"), -1002);
        Due.about("OWN 1 or 2 digits, which may begin with 0");
        for (int own = 0; own <= 99; own++) {
            Due.is("own " + own, Due.of("b6," + own + ";").count(3), own);
        }
        Due.is("own 00", Due.of("b6,00;").count(3), 0);
        Due.is("own 07", Due.of("b6,07;").count(3), 7);
        Due.is("no own", board("b6,;"), -1003);
        Due.is("own 100", board("b6,100;"), -1005);
        Due.is("own 007", board("b6,007;"), -1005);
        Due.about("NOTCH 0 .. 4");
        for (int notch = 0; notch <= 9; notch++) {
            SeeSawForFive x = new SeeSawForFive();
            Due.is("t" + notch, Due.tell(x, "t" + notch + ";"), notch <= 4 ? 1 : -2000);
            Due.is("notch", x.count(4), notch <= 4 ? notch : 2);
        }
        Due.is("t04", board("t04;"), -1002);
    }

    private static void numbersOfChildren() {
        Due.about("WEIGHT 1 .. 60");
        for (int weight = 0; weight <= 99; weight++) {
            boolean fine = weight >= 1 && weight <= 60;
            SeeSawForFive x = new SeeSawForFive();
            Due.is("weight " + weight, Due.tell(x, "cc" + weight + ",0;"), fine ? 1 : -2000);
            Due.is("child(0, 1)", x.child(0, 1), fine ? weight : -1);
        }
        Due.about("WEIGHT 1 or 2 digits, which may begin with 0");
        Due.is("weight 01", Due.of("cc01,0;").child(0, 1), 1);
        Due.is("weight 00", board("cc00,0;"), -2000);
        Due.is("weight 060", board("cc060,0;"), -1004);
        Due.is("no weight", board("cc,0;"), -1002);
        Due.about("LEGS a digit");
        for (int legs = 0; legs <= 9; legs++) {
            Due.is("legs " + legs, Due.of("cn60," + legs + ";").child(0, 2), legs);
        }
        Due.is("legs 10", board("cc1,10;"), -1005);
        Due.is("no legs", board("cc1,;"), -1004);
        Due.about("a CHILD more, who sits nowhere");
        Due.is("seat(0)", Due.of("cc1,0;").seat(0), 99);
    }

    private static void roomForChildren() {
        Due.about("5 at most");
        SeeSawForFive x = new SeeSawForFive();
        for (int i = 1; i <= 5; i++) {
            Due.is("child " + i, Due.tell(x, "cc1,0;"), 1);
            Due.is("count(0)", x.count(0), i);
        }
        Due.is("child 6", Due.tell(x, "cc1,0;"), -2000);
        Due.is("count(0)", x.count(0), 5);
        Due.is("five at once", board("cc1,0;".repeat(5)), 5);
        Due.is("six at once", board("cc1,0;".repeat(6)), -2030);
        Due.about("no room for more, though one gets off");
        Due.is("off and one more", Due.tell(x, "o4;cc1,0;"), -2003);
    }

    private static void seatsOfStatements() {
        Due.about("a CHILD that is not there ahead of it");
        Due.is("none", board("s0l1;"), -2000);
        Due.is("behind it", board("s0l1;cc1,0;"), -2000);
        Due.is("ahead of it", board("cc1,0;s0l1;"), 2);
        Due.is("one beyond", board("cc1,0;s1l1;"), -2006);
        Due.is("far beyond", board("cc1,0;s9l1;"), -2006);
        Due.is("the fifth", board("cc1,0;".repeat(5) + "s4r6;"), 6);
        Due.is("a sixth", board("cc1,0;".repeat(5) + "s5r6;"), -2030);
        Due.is("none gets off", board("o0;"), -2000);
        Due.is("one beyond gets off", board("cc1,0;o1;"), -2006);
        Due.is("the one there gets off", board("cc1,0;o0;"), 2);
        Due.about("FEET 1 .. LENGTH");
        for (int length = 1; length <= 6; length++) {
            for (int feet = 0; feet <= 9; feet++) {
                int want = feet >= 1 && feet <= length ? 3 : -2011;
                Due.is("left", board("b" + length + ",0;cc1,0;s0l" + feet + ";"), want);
                Due.is("right", board("b" + length + ",0;cc1,0;s0r" + feet + ";"), want);
            }
        }
        Due.is("FEET are one digit", board("cc1,0;s0l01;"), -1010);
        Due.about("a seat that is taken (nobody else may)");
        Due.is("taken", board("cc1,0;cc1,0;s0l1;s1l1;"), -2017);
        Due.is("the other side is free", board("cc1,0;cc1,0;s0l1;s1r1;"), 4);
        Due.is("by itself", board("cc1,0;s0l1;s0l1;"), 3);
        Due.is("left by moving", board("cc1,0;cc1,0;s0l1;s0l2;s1l1;"), 5);
        Due.is("left by getting off", board("cc1,0;cc1,0;s0l1;o0;s1l1;"), 5);
        Due.is("taken by a move", board("cc1,0;cc1,0;s0l1;s0l2;s1l2;"), -2022);
        SeeSawForFive x = Due.of("cc1,0;cc1,0;s0r3;");
        Due.is("taken ahead of the text", Due.tell(x, "s1r3;"), -2000);
        Due.is("seat(1)", x.seat(1), 99);
        x.sit(0, 0);
        Due.is("free ahead of the text", Due.tell(x, "s1r3;"), 1);
    }

    private static void lengthAndSitters() {
        Due.about("LENGTH less than somebody's FEET");
        for (int length = 1; length <= 6; length++) {
            int want = length >= 4 ? 3 : -2011;
            Due.is("left 4, length " + length, board("cc1,0;s0l4;b" + length + ",0;"), want);
            Due.is("right 4, length " + length, board("cc1,0;s0r4;b" + length + ",0;"), want);
        }
        Due.is("the last of five", board("cc1,0;".repeat(5) + "s4l2;b1,0;"), -2035);
        Due.is("nobody sits", board("cc1,0;b1,0;"), 2);
        Due.is("off ahead of it", board("cc1,0;s0l6;o0;b1,0;"), 4);
        Due.is("off behind it", board("cc1,0;s0l6;b1,0;o0;"), -2011);
        SeeSawForFive x = Due.of("cc1,0;s0r6;");
        Due.is("sits ahead of the text", Due.tell(x, "b5,9;"), -2000);
        Due.is("length", x.count(2), 6);
        Due.is("own", x.count(3), 0);
        Due.about("LENGTH may be more again");
        Due.is("b1, b6, and far", board("cc1,0;b1,0;b6,0;s0l6;"), 4);
    }

    /** Each letter 0 .. 255 at each place of each statement, behind all ahead of it. */
    private static void lettersThatGoOn() {
        Due.about("the first letter with which no BOARD can go on");
        goesOn("b6,12;", VERBS, DIGITS, ",", DIGITS, DIGITS + ";", ";");
        goesOn("b6,1;", VERBS, DIGITS, ",", DIGITS, DIGITS + ";");
        goesOn("t2;", VERBS, DIGITS, ";");
        goesOn("cc12,3;", VERBS, "chitbn", DIGITS, DIGITS + ",", ",", DIGITS, ";");
        goesOn("cc1,3;", VERBS, "chitbn", DIGITS, DIGITS + ",", DIGITS, ";");
        goesOn("s0l1;", VERBS, DIGITS, "lr", DIGITS, ";");
        goesOn("o0;", VERBS, DIGITS, ";");
    }

    private static void goesOn(String statement, String... may) {
        for (String ahead : new String[] {"", "cc1,1;t0;"}) {
            for (int k = 0; k < may.length; k++) {
                for (int c = 0; c <= 255; c++) {
                    String text = ahead + statement.substring(0, k) + (char) c;
                    int place = ahead.length() + k;
                    boolean ends = c == ';';
                    int lacks = ends ? 0 : 1;
                    int want = may[k].indexOf(c) < 0 ? -1000 - place : -1000 - (place + lacks);
                    if (may[k].indexOf(c) < 0 || !ends) {
                        Due.is("board() of " + text, board(text), want);
                        Due.is("board() of " + text + "?", board(text + "?"), want);
                    }
                }
            }
        }
    }

    private static void whatLacks() {
        Due.about("at least one STATEMENT");
        Due.is("no letter", board(""), -1000);
        Due.about("the end, if something lacks");
        String text = "b6,12;t4;cn60,9;s0r6;o0;";
        int statements = 0;
        for (int k = 1; k <= text.length(); k++) {
            boolean ends = text.charAt(k - 1) == ';';
            statements += ends ? 1 : 0;
            Due.is("the first " + k + " letters", board(text.substring(0, k)), ends ? statements : -1000 - k);
        }
        Due.is("nothing behind ;", board("t2;;"), -1003);
        Due.about("80 letters, and something lacks");
        Due.is("t2", board("t2;".repeat(26) + "t2"), -1080);
        Due.is("the last letter", board("t2;".repeat(26) + "tt"), -1079);
    }

    private static void faults() {
        Due.about("kind 1 is told, else kind 2");
        Due.is("the wrong one ahead", board("t9;b7,0;s0l1;t2"), -1015);
        Due.is("the first letter of two", board("t9;x;y;"), -1003);
        Due.about("the first STATEMENT that is not as it must be");
        Due.is("two wrong", board("t2;t9;t8;"), -2003);
        Due.is("the first", board("t9;t2;"), -2000);
        Due.is("the last of 26", board("t2;".repeat(25) + "b0,0;"), -2075);
        Due.about("without FAULT all of it comes, with one nothing");
        SeeSawForFive x = Due.of("b5,5;t1;cc10,1;cc20,2;s0l5;s1r5;");
        for (String wrong : new String[] {"t9;", "t9", "b0,0;", "cc0,0;", "s1l4;", "o3;", "s3l1;", "b4,1;"}) {
            Due.is("board()", Due.tell(x, "o0;s0l4;t4;cn1,1;b6,9;" + wrong) < -999 ? 1 : 0, 1);
            int[] now = {x.count(0), x.count(1), x.count(2), x.count(3), x.count(4), x.seat(0), x.seat(1), x.count(8)};
            int[] want = {2, 2, 5, 5, 1, -5, 5, 0};
            for (int i = 0; i < now.length; i++) {
                Due.is("behind " + wrong + ": " + i, now[i], want[i]);
            }
        }
        Due.about("3: the FAULT (nothing is counted)");
        for (int what = 11; what <= 16; what++) {
            Due.is("count(" + what + ")", x.count(what), 0);
        }
    }

    private static int board(String text) {
        return Due.tell(new SeeSawForFive(), text);
    }

    private static void child() {
        Due.about("4: 0 c, 1 h, 2 i, 3 t, 4 b, 5 n");
        for (int kind = 0; kind < 6; kind++) {
            Due.is("kind", Due.of("c" + "chitbn".charAt(kind) + "1,0;").child(0, 0), kind);
        }
        SeeSawForFive x = Due.of("cc1,0;ch2,1;ci3,2;ct4,3;cb5,4;");
        Due.about("4: -1 no such CHILD");
        for (int who : new int[] {-1, 5, 6, MIN, MAX}) {
            Due.is("child(" + who + ", 0)", x.child(who, 0), -1);
        }
        Due.is("nobody", new SeeSawForFive().child(0, 0), -1);
        Due.is("the first", x.child(0, 0), 0);
        Due.is("the last", x.child(4, 0), 4);
        Due.about("4: -2 what");
        for (int what : new int[] {-1, 3, MIN, MAX}) {
            Due.is("child(4, " + what + ")", x.child(4, what), -2);
        }
        Due.about("4: -1 ahead of -2");
        Due.is("child(5, 3)", x.child(5, 3), -1);
    }

    private static void seat() {
        SeeSawForFive x = Due.of("cc1,0;cc2,0;s0l6;");
        Due.about("5: 99 it sits nowhere");
        Due.is("seat(1)", x.seat(1), 99);
        Due.is("seat(0)", x.seat(0), -6);
        Due.about("5: refused as told, -1 is 1000000001");
        for (int who : new int[] {-1, 2, 5, MIN, MAX}) {
            Due.is("seat(" + who + ")", x.seat(who), 1000000001);
        }
        Due.is("count(11)", x.count(11), 5);
    }

    private static void sit() {
        SeeSawForFive x = Due.of("b3,0;cc1,0;cc1,0;");
        Due.about("6: -1 either (beyond LENGTH)");
        for (int seat : new int[] {4, -4, MIN, MAX}) {
            Due.is("sit(0, " + seat + ")", x.sit(0, seat), -1);
        }
        for (int who : new int[] {-1, 2, MIN, MAX}) {
            Due.is("sit(" + who + ", 1)", x.sit(who, 1), -1);
            Due.is("sit(" + who + ", 0)", x.sit(who, 0), -1);
        }
        Due.about("6: it sits as far as LENGTH");
        Due.is("sit(0, 3)", x.sit(0, 3), 0);
        Due.is("sit(0, -3)", x.sit(0, -3), 1);
        Due.is("seat(0)", x.seat(0), -3);
        Due.about("6: -3 it is taken by somebody else");
        Due.is("sit(1, -3)", x.sit(1, -3), -3);
        Due.is("seat(1)", x.seat(1), 99);
        Due.is("sit(1, 3)", x.sit(1, 3), 0);
        Due.is("sit(0, 3)", x.sit(0, 3), -3);
        Due.is("seat(0)", x.seat(0), -3);
        Due.about("6: its own seat is not taken by somebody else");
        Due.is("sit(0, -3)", x.sit(0, -3), 1);
        Due.about("6: 0 it gets off: 1 it sat already, 0");
        Due.is("sit(0, 0)", x.sit(0, 0), 1);
        Due.is("sit(0, 0)", x.sit(0, 0), 0);
        Due.is("seat(0)", x.seat(0), 99);
        Due.is("its seat is free", x.sit(1, -3), 1);
    }

    private static void notch() {
        SeeSawForFive x = new SeeSawForFive();
        Due.about("7: -4");
        Due.is("notch(-1)", x.notch(-1), -4);
        Due.is("notch(MIN)", x.notch(MIN), -4);
        Due.about("7: -6 4");
        Due.is("notch(5)", x.notch(5), -6);
        Due.is("notch(MAX)", x.notch(MAX), -6);
        Due.about("7: what it was");
        Due.is("notch(0)", x.notch(0), 2);
        Due.is("notch(4)", x.notch(4), 0);
        Due.is("notch(4)", x.notch(4), 4);
        Due.is("count(4)", x.count(4), 4);
    }

    /** Turns of weight 7 by arms -8 .. 8, for each kind. */
    private static void turns() {
        int[] arms = {-8, -7, -6, -5, -4, -3, -2, -1, 0, 1, 2, 3, 4, 5, 6, 7, 8};
        turnsAre("c CHILD", "cc7,0;", arms,
            -56, -49, -42, -35, -28, -21, -14, -7, 0, 7, 14, 21, 28, 35, 42, 49, 56);
        turnsAre("h HANGER: WEIGHT more, if ARM is below 0 less", "ch7,0;", arms,
            -63, -56, -49, -42, -35, -28, -21, -14, 7, 14, 21, 28, 35, 42, 49, 56, 63);
        turnsAre("i IN: 1 nearer to 0 (0 stays)", "ci7,0;", arms,
            -49, -42, -35, -28, -21, -14, -7, 0, 0, 0, 7, 14, 21, 28, 35, 42, 49);
        turnsAre("t TWIN: twice a HANGER's", "ct7,0;", arms,
            -126, -112, -98, -84, -70, -56, -42, -28, 14, 28, 42, 56, 70, 84, 98, 112, 126);
        turnsAre("b BABY: half of an IN's, cut", "cb7,0;", arms,
            -24, -21, -17, -14, -10, -7, -3, 0, 0, 0, 3, 7, 10, 14, 17, 21, 24);
        turnsAre("n STANDER: 0", "cn7,0;", arms, new int[17]);
    }

    private static void turnsAre(String about, String kind, int[] arms, int... want) {
        Due.about(about);
        SeeSawForFive x = Due.of(kind);
        for (int notch = 0; notch <= 4; notch++) {
            x.notch(notch);
            for (int i = 0; i < arms.length; i++) {
                int seat = arms[i] + notch - 2;
                if (seat != 0 && seat >= -6 && seat <= 6) {
                    x.sit(0, seat);
                    Due.is("arm " + arms[i] + " by notch " + notch, x.sum(), want[i]);
                }
            }
        }
    }

    private static void sums() {
        Due.about("8: SUM of nobody on a board without weight");
        Due.is("sum()", new SeeSawForFive().sum(), 0);
        Due.about("8: OWN times THE PIVOT's, turned round");
        SeeSawForFive x = Due.of("b6,99;");
        int[] own = {198, 99, 0, -99, -198};
        for (int notch = 0; notch <= 4; notch++) {
            x.notch(notch);
            Due.is("notch " + notch, x.sum(), own[notch]);
            Due.is("down()", x.down(), notch < 2 ? 2 : notch > 2 ? 0 : 1);
        }
        Due.about("8: the greatest SUM, and the least");
        Due.is("board()", Due.tell(x, "ct60,9;ct60,9;ct60,9;ct60,9;ct60,9;"), 5);
        x.notch(0);
        sitAll(x, 6, 5, 4, 3, 2);
        Due.is("sum()", x.sum(), 120 * (9 + 8 + 7 + 6 + 5) + 198);
        x.notch(4);
        sitAll(x, -6, -5, -4, -3, -2);
        Due.is("sum()", x.sum(), -120 * (9 + 8 + 7 + 6 + 5) - 198);
        Due.about("9: above 0 RIGHT, below 0 LEFT, 0 LEVEL");
        SeeSawForFive one = Due.of("cc1,0;s0r1;");
        Due.is("1: down()", one.down(), 2);
        one.sit(0, -1);
        Due.is("-1: down()", one.down(), 0);
        one.sit(0, 0);
        Due.is("0: down()", one.down(), 1);
    }

    private static void sitAll(SeeSawForFive x, int... seats) {
        for (int i = 0; i < seats.length; i++) {
            x.sit(i, seats[i]);
        }
    }
}
