/** Promises 1 to 9: a new object, its letters and board, its children, and which side is down. */
public final class BoardTest {
    public static void main(String[] args) {
        newObject();
        letters();
        faultsOfLetters();
        faultsOfStatements();
        boardsThatCome();
        childAndSeat();
        sitting();
        notches();
        turnsOfKinds();
        Due.end("BoardTest");
    }

    private static void newObject() {
        SeeSawForFive x = new SeeSawForFive();
        int[] want = {0, 0, 6, 0, 2, 0, 0, 0, 0, -9, -9, 0, 0, 0, 0, 0, 0, -9};
        for (int what = 0; what < want.length; what++) {
            Due.is("new: count(" + what + ")", x.count(what), want[what]);
        }
        Due.is("new: sum()", x.sum(), 0);
        Due.is("new: down()", x.down(), 1);
        Due.is("new: on()", x.on(), -3);
    }

    private static void letters() {
        SeeSawForFive x = new SeeSawForFive();
        Due.is("letter(-1)", x.letter(-1), -4);
        Due.is("letter(MIN)", x.letter(Integer.MIN_VALUE), -4);
        Due.is("letter(256)", x.letter(256), -6);
        Due.is("letter(0)", x.letter(0), 1);
        Due.is("letter(255)", x.letter(255), 2);
        for (int i = 3; i <= 80; i++) {
            Due.is("letter " + i, x.letter('t'), i);
        }
        Due.is("letter 81", x.letter('t'), -6);
        Due.is("letter 81 below", x.letter(-1), -4);
        Due.is("count(8)", x.count(8), 80);
        Due.is("count(14)", x.count(14), 3);
        Due.is("count(16)", x.count(16), 2);
        Due.is("board()", x.board(), -1000);
        Due.is("letters are no more", x.count(8), 0);
        Due.is("a fault is no refusal", x.count(11) + x.count(12) + x.count(13), 0);
    }

    private static void faultsOfLetters() {
        fault("", -1000);
        fault("x", -1000);
        fault(";", -1000);
        fault("B6,0;", -1000);
        fault("b", -1001);
        fault("bx", -1001);
        fault("b6", -1002);
        fault("b60;", -1002);
        fault("b6,", -1003);
        fault("b6,;", -1003);
        fault("b6,1", -1004);
        fault("b6,12", -1005);
        fault("b6,123;", -1005);
        fault("t;", -1001);
        fault("t2", -1002);
        fault("t22;", -1002);
        fault("c", -1001);
        fault("cq1,0;", -1001);
        fault("cc,0;", -1002);
        fault("cc1;", -1003);
        fault("cc123,0;", -1004);
        fault("cc12,", -1005);
        fault("cc12,00;", -1006);
        fault("s;", -1001);
        fault("sl1;", -1001);
        fault("s01;", -1002);
        fault("s0m1;", -1002);
        fault("s0l;", -1003);
        fault("s0l12;", -1004);
        fault("o;", -1001);
        fault("o00;", -1002);
        fault("t2;;", -1003);
        fault("t2; ", -1003);
        // a letter that does not go on comes ahead of a statement that is wrong
        fault("t9;t", -1004);
        fault("b0,0;x", -1005);
        // the whole room of letters, and something lacks
        fault("t2;".repeat(26) + "t2", -1080);
    }

    private static void faultsOfStatements() {
        fault("b0,0;", -2000);
        fault("b7,0;", -2000);
        fault("t5;", -2000);
        fault("t2;t9;", -2003);
        fault("cc0,0;", -2000);
        fault("cc00,0;", -2000);
        fault("cc61,0;", -2000);
        fault("cc99,9;", -2000);
        fault("s0l1;", -2000);
        fault("o0;", -2000);
        fault("s0l1;cc1,0;", -2000);
        fault("cc1,0;s1l1;", -2006);
        fault("cc1,0;o1;", -2006);
        fault("cc1,0;s0l0;", -2006);
        fault("cc1,0;s0r0;", -2006);
        fault("cc1,0;s0l7;", -2006);
        fault("b3,0;cc1,0;s0r4;", -2011);
        fault("cc1,0;cc1,0;s0l1;s1l1;", -2017);
        fault("cc1,0;s0l5;b4,0;", -2011);
        fault("cc1,0;s0r5;b4,0;", -2011);
        fault("cc1,0;cc1,0;cc1,0;cc1,0;cc1,0;cc1,0;", -2030);
    }

    /** Each fault leaves all as it was, on a new board and on one with children. */
    private static void fault(String text, int want) {
        SeeSawForFive x = new SeeSawForFive();
        Due.is("board() of '" + text + "'", Due.tell(x, text), want);
        Due.is("length behind '" + text + "'", x.count(2), 6);
        Due.is("notch behind '" + text + "'", x.count(4), 2);
        Due.is("children behind '" + text + "'", x.count(0), 0);
        Due.is("letters behind '" + text + "'", x.count(8), 0);
        for (int what = 11; what <= 16; what++) {
            Due.is("refusals behind '" + text + "'", x.count(what), 0);
        }
    }

    private static void boardsThatCome() {
        SeeSawForFive x = Due.of("b5,07;t0;cc01,9;cn60,0;s0l5;s1r5;");
        Due.is("length", x.count(2), 5);
        Due.is("own", x.count(3), 7);
        Due.is("notch", x.count(4), 0);
        Due.is("seat(0)", x.seat(0), -5);
        Due.is("seat(1)", x.seat(1), 5);
        Due.is("weight", x.child(0, 1), 1);
        Due.is("the next text goes on from there", Due.tell(x, "o0;s1l5;s1l5;b5,99;"), 4);
        Due.is("seat(0)", x.seat(0), 99);
        Due.is("seat(1)", x.seat(1), -5);
        Due.is("own", x.count(3), 99);
        Due.is("off twice", Due.tell(x, "o0;o0;"), 2);
        Due.is("all or nothing", Due.tell(x, "t4;b6,1;cc5,5;s2r1;s0r1;"), -2019);
        Due.is("notch as it was", x.count(4), 0);
        Due.is("children as they were", x.count(0), 2);
        Due.is("length as it was", x.count(2), 5);
        Due.is("off, and then shorter", Due.tell(x, "o1;b1,0;"), 2);
        Due.is("length", x.count(2), 1);
        Due.is("a fault is told of what now is", Due.tell(x, "s0r2;"), -2000);
        Due.is("no room behind", Due.tell(x, "ch1,0;ci1,0;ct1,0;"), 3);
        Due.is("no room behind", Due.tell(x, "cb1,0;"), -2000);
        Due.is("count(0)", x.count(0), 5);
        SeeSawForFive whole = Due.of("t2;".repeat(26));
        Due.is("the whole room", Due.tell(whole, "t2;".repeat(25) + "b6,0;"), 26);
    }

    private static void childAndSeat() {
        SeeSawForFive x = Due.of("cc11,1;ch22,2;ci33,3;ct44,4;cb55,5;");
        for (int i = 0; i < 5; i++) {
            Due.is("kind", x.child(i, 0), i);
            Due.is("weight", x.child(i, 1), 11 * (i + 1));
            Due.is("legs", x.child(i, 2), i + 1);
            Due.is("seat", x.seat(i), 99);
        }
        Due.is("child(5, 0)", x.child(5, 0), -1);
        Due.is("child(-1, 9)", x.child(-1, 9), -1);
        Due.is("child(0, 3)", x.child(0, 3), -2);
        Due.is("child(0, -1)", x.child(0, -1), -2);
        Due.is("seat(5)", x.seat(5), 1000000001);
        Due.is("seat(-1)", x.seat(-1), 1000000001);
        Due.is("count(11)", x.count(11), 4);
        Due.is("count(12)", x.count(12), 2);
        Due.is("stander", Due.of("cn1,0;").child(0, 0), 5);
    }

    private static void sitting() {
        SeeSawForFive x = Due.of("b4,0;cc1,0;cc1,0;");
        Due.is("sit(0, 5)", x.sit(0, 5), -1);
        Due.is("sit(0, -5)", x.sit(0, -5), -1);
        Due.is("sit(0, MIN)", x.sit(0, Integer.MIN_VALUE), -1);
        Due.is("sit(2, 1)", x.sit(2, 1), -1);
        Due.is("sit(-1, 0)", x.sit(-1, 0), -1);
        Due.is("sit(0, 0)", x.sit(0, 0), 0);
        Due.is("sit(0, 4)", x.sit(0, 4), 0);
        Due.is("sit(1, 4)", x.sit(1, 4), -3);
        Due.is("it sits nowhere still", x.seat(1), 99);
        Due.is("sit(1, -4)", x.sit(1, -4), 0);
        Due.is("sit(0, 4)", x.sit(0, 4), 1);
        Due.is("sit(0, -4)", x.sit(0, -4), -3);
        Due.is("sit(0, 1)", x.sit(0, 1), 1);
        Due.is("seat(0)", x.seat(0), 1);
        Due.is("count(1)", x.count(1), 2);
        Due.is("sit(0, 0)", x.sit(0, 0), 1);
        Due.is("seat(0)", x.seat(0), 99);
        Due.is("count(1)", x.count(1), 1);
        Due.is("count(11)", x.count(11), 5);
        Due.is("count(13)", x.count(13), 2);
    }

    private static void notches() {
        SeeSawForFive x = new SeeSawForFive();
        Due.is("notch(-1)", x.notch(-1), -4);
        Due.is("notch(5)", x.notch(5), -6);
        Due.is("notch(0)", x.notch(0), 2);
        Due.is("notch(4)", x.notch(4), 0);
        Due.is("notch(4)", x.notch(4), 4);
        Due.is("count(4)", x.count(4), 4);
    }

    private static void turnsOfKinds() {
        // arms of seats -1, 1 and 2 by notch 3 are -2, 0 and 1
        turn("cc7,0;", -14, 0, 7);
        turn("ch7,0;", -21, 7, 14);
        turn("ci7,0;", -7, 0, 0);
        turn("ct7,0;", -42, 14, 28);
        turn("cb7,0;", -3, 0, 0);
        turn("cn7,0;", 0, 0, 0);
        SeeSawForFive x = Due.of("b6,10;t0;");
        Due.is("own turns to the right of a pivot on the left", x.sum(), 20);
        Due.is("down()", x.down(), 2);
        x.notch(3);
        Due.is("sum()", x.sum(), -10);
        Due.is("down()", x.down(), 0);
        x.notch(2);
        Due.is("down()", x.down(), 1);
    }

    private static void turn(String kind, int two, int none, int one) {
        SeeSawForFive x = Due.of("t3;" + kind);
        Due.is(kind + " nowhere", x.sum(), 0);
        x.sit(0, -1);
        Due.is(kind + " arm -2", x.sum(), two);
        Due.is(kind + " arm -2: down()", x.down(), two < 0 ? 0 : 1);
        x.sit(0, 1);
        Due.is(kind + " arm 0", x.sum(), none);
        x.sit(0, 2);
        Due.is(kind + " arm 1", x.sum(), one);
        Due.is(kind + " arm 1: down()", x.down(), one > 0 ? 2 : 1);
    }
}
