/** The sentences of DOC.md on edges, one by one: inertia, how it comes down, pushing off, throws, promises 21 to 25. */
public final class SwingEdgesTest {
    private static final int MIN = Integer.MIN_VALUE;
    private static final int MAX = Integer.MAX_VALUE;

    public static void main(String[] args) {
        inertia();
        nothingTurns();
        speedIsCut();
        tiltIsHeld();
        refusedDown();
        upAllTheTime();
        neverUp();
        legsThatPush();
        legsThatDoNot();
        heldAfterPushing();
        refusedUp();
        thrownEdges();
        notSo();
        leastTerms();
        refusedThrows();
        throwsInOrder();
        highest();
        noneToJumpOnto();
        Due.end("SwingEdgesTest");
    }

    private static void inertia() {
        Due.about("21: 1 at least");
        Due.is("nobody, own 0", new SeeSawForFive().inertia(), 1);
        Due.is("arm 0, own 0", Due.of("t3;cc60,0;s0r1;").inertia(), 1);
        Due.is("own 1", Due.of("b6,1;").inertia(), 1);
        Due.is("own 2", Due.of("b6,2;").inertia(), 2);
        Due.is("own 99", Due.of("b6,99;t0;").inertia(), 99);
        Due.about("21: of all who sit, whatever their KIND");
        for (int i = 0; i < 6; i++) {
            SeeSawForFive x = Due.of("c" + "chitbn".charAt(i) + "7,0;");
            Due.is("nobody sits", x.inertia(), 1);
            x.sit(0, -3);
            Due.is("three feet to the left", x.inertia(), 63);
        }
        Due.about("21: the greatest");
        SeeSawForFive most = Due.of("t0;b6,99;cc60,0;cc60,0;cc60,0;cc60,0;cc60,0;s0r6;s1r5;s2r4;s3r3;s4r2;");
        Due.is("inertia()", most.inertia(), 60 * (64 + 49 + 36 + 25 + 16) + 99);
    }

    private static void down(SeeSawForFive x, int tenths, int hard) {
        Due.is("comesDown(0)", x.comesDown(0), tenths);
        Due.is("comesDown(1)", x.comesDown(1), hard);
    }

    private static void nothingTurns() {
        Due.about("22: 200 at most; -9");
        down(new SeeSawForFive(), -9, -9);
        down(Due.of("cc4,0;cc4,0;s0r1;s1l1;"), -9, -9);
        Due.about("22: by now, whoever does not sit");
        down(Due.of("cc4,0;"), -9, -9);
    }

    private static void speedIsCut() {
        Due.about("22: 10 times SUM by INERTIA, cut to 0");
        // 10 by 10 is 1, 10 by 11 is 0
        down(Due.of("b6,9;cc1,0;s0r1;"), 14, 14);
        down(Due.of("b6,10;cc1,0;s0r1;"), -9, -9);
        Due.about("22: cut toward 0 on the left, too");
        down(Due.of("b6,9;cc1,0;s0l1;"), 14, 14);
        down(Due.of("b6,10;cc1,0;s0l1;"), -9, -9);
        // -19 by 10 is -1
        down(Due.of("b6,9;ch1,0;s0l1;"), 10, 20);
        down(Due.of("b6,10;ch1,0;s0l1;"), 14, 14);
    }

    private static void tiltIsHeld() {
        // on arm 0 a hanger turns by its weight and has no inertia
        Due.about("22: TILT 99 is not down yet");
        // SUM 13 - 3, 100 by 3: 33, 99, 198
        down(Due.of("t3;b6,3;ch13,0;s0r1;"), 3, 99);
        // SUM 120 - 11, 1090 by 11: 99, 297
        down(Due.of("t3;b6,11;ct60,0;s0r1;"), 2, 198);
        Due.about("22: TILT 100 is down");
        // SUM 110 - 10, 1000 by 10: 100
        down(Due.of("t3;b6,10;ct55,0;s0r1;"), 1, 100);
        // 10 a tenth: 10, 30, 60, 100
        down(Due.of("cc1,0;s0r1;"), 4, 40);
        Due.about("22: TILT -100 is down, HARD without sign");
        down(Due.of("cc1,0;s0l1;"), 4, 40);
        Due.about("22: beyond 100 it is held, SPEED is not");
        down(Due.of("t3;ct60,0;s0r1;"), 1, 1200);
        // 1 a tenth: 91 behind 13, 105 behind 14
        down(Due.of("cc1,0;s0r6;"), 14, 14);
    }

    private static void refusedDown() {
        SeeSawForFive x = Due.of("cc1,0;s0r1;");
        Due.about("22: -2");
        for (int what : new int[] {-1, 2, MIN, MAX}) {
            Due.is("comesDown(" + what + ")", x.comesDown(what), -2);
        }
    }

    private static void upAllTheTime() {
        Due.about("23: 200 tenths in all, the first one too");
        SeeSawForFive x = Due.of("cc9,0;cn1,0;s0r6;s1l1;");
        Due.is("SUM 54, inertia 325: 1 a tenth", x.comesDown(0), 14);
        Due.is("the left one is up from the first tenth on", x.up(1), 200);
        Due.is("the right one never", x.up(0), 0);
        Due.about("23: ARM below 0: TILT above 0; ARM above 0: TILT below 0");
        SeeSawForFive turned = Due.of("cc9,0;cn1,0;s0l6;s1r1;");
        Due.is("the right one", turned.up(1), 200);
        Due.is("the left one", turned.up(0), 0);
    }

    private static void neverUp() {
        Due.about("23: LEVEL is not higher");
        SeeSawForFive level = Due.of("cc4,9;cc4,9;s0r1;s1l1;");
        Due.is("up(0)", level.up(0), 0);
        Due.is("up(1)", level.up(1), 0);
        Due.about("23: ARM 0 is never higher");
        Due.is("TILT above 0", Due.of("t3;cn1,0;cc1,0;s0r1;s1r2;").up(0), 0);
        Due.is("TILT below 0", Due.of("t3;cn1,0;cc1,0;s0r1;s1l1;").up(0), 0);
        Due.about("23: a side is that of THE PIVOT");
        SeeSawForFive x = Due.of("t4;cn1,0;cc1,0;s0r1;s1r3;");
        Due.is("right of the middle, left of the pivot", x.up(0), 200);
    }

    private static void legsThatPush() {
        // 6 feet: 1 a tenth; 14 tenths till 100; 45 off: 56 13 -29 -70 -100 (nobody there pushes)
        // -99 -97 -94 -90 -85 -79 -72 -64 -55 -45 -34 -22 -9 5 20 36 53 71 90 100: 25 a round, 16 of them below 0
        Due.about("23: LEGS times 5 are pushed off");
        Due.is("9 legs", Due.of("cc4,9;s0r6;").up(0), 7 * 16 + 9);
        Due.is("9 legs on the left", Due.of("cc4,9;s0l6;").up(0), 7 * 16 + 9);
        Due.about("23: LEGS of all who sit on that side together");
        SeeSawForFive two = Due.of("cc4,4;cn1,5;s0r6;s1r1;");
        Due.is("4 of one", two.up(0), 7 * 16 + 9);
        Due.is("5 of the other", two.up(1), 7 * 16 + 9);
        Due.about("23: no LEGS: SPEED becomes 0 and it stays down");
        Due.is("0 legs", Due.of("cc4,0;s0r6;").up(0), 0);
        Due.about("23: a push that is less than what comes next: it stays down");
        // 10 a tenth: 2 legs push 10 off
        Due.is("2 legs", Due.of("cc4,2;s0r1;").up(0), 0);
    }

    private static void legsThatDoNot() {
        Due.about("23: LEGS on ARM 0 push on neither side");
        SeeSawForFive right = Due.of("t3;cc4,0;cn1,9;s0r6;s1r1;");
        Due.is("down on the right", right.down(), 2);
        Due.is("up(0)", right.up(0), 0);
        SeeSawForFive left = Due.of("t1;cc4,0;cn1,9;s0l6;s1l1;");
        Due.is("down on the left", left.down(), 0);
        Due.is("up(0)", left.up(0), 0);
        Due.about("23: LEGS on the other side do not push");
        SeeSawForFive other = Due.of("cc4,0;cn1,9;s0r6;s1l1;");
        Due.is("up(0)", other.up(0), 0);
        Due.is("up(1)", other.up(1), 200);
        Due.about("23: LEGS of one who sits nowhere do not push");
        Due.is("up(0)", Due.of("cc4,0;cn1,9;s0r6;").up(0), 0);
    }

    private static void heldAfterPushing() {
        Due.about("23: TILT is held to -100 .. 100 when 45 LEGS push, too");
        // SUM 20, inertia 90: 2 a tenth, 10 tenths till 100; 225 off: -100 at once, then 2, 4, ..: -98 -94 -88
        // -80 -70 -58 -44 -28 -10 10 32 56 82 100: 15 a round, the first 10 below 0
        SeeSawForFive x = Due.of("cc1,9;cc1,9;cc1,9;cc1,9;cc1,9;s0r6;s1r5;s2r4;s3r3;s4r2;");
        Due.is("comesDown(0)", x.comesDown(0), 10);
        for (int i = 0; i < 5; i++) {
            Due.is("up(" + i + ")", x.up(i), 12 * 10 + 10);
        }
        Due.about("23: asking changes nothing");
        Due.is("comesDown(0)", x.comesDown(0), 10);
        Due.is("up(0)", x.up(0), 130);
    }

    private static void refusedUp() {
        SeeSawForFive x = Due.of("cc1,0;cc1,0;s0r1;");
        Due.about("23: -1");
        for (int who : new int[] {-1, 2, MIN, MAX}) {
            Due.is("up(" + who + ")", x.up(who), -1);
        }
        Due.about("23: -3 it sits nowhere");
        Due.is("up(1)", x.up(1), -3);
        x.sit(0, 0);
        Due.is("up(0)", x.up(0), -3);
    }

    private static void thrownIs(SeeSawForFive x, int weight, int feet, int seat, int above, int below) {
        String call = "thrown(" + weight + ", " + feet + ", " + seat + ", 0, ";
        Due.is(call + "0)", x.thrown(weight, feet, seat, 0, 0), above);
        Due.is(call + "1)", x.thrown(weight, feet, seat, 0, 1), below);
    }

    private static void thrownEdges() {
        Due.about("24: WEIGHT 1 .. 60, FEET 1 .. 20");
        SeeSawForFive x = Due.of("cc7,0;s0l1;");
        thrownIs(x, 1, 1, 1, 1, 7);
        thrownIs(x, 60, 1, 1, 60, 7);
        thrownIs(x, 1, 20, 1, 20, 7);
        thrownIs(x, 60, 20, 6, 7200, 7);
        Due.about("24: the greatest, by ARM 8");
        SeeSawForFive far = Due.of("t0;cc1,0;s0l3;");
        thrownIs(far, 60, 20, 6, 60 * 20 * 8, 1);
        SeeSawForFive heavy = Due.of("t0;cc59,0;s0r6;");
        thrownIs(heavy, 1, 1, -3, 1, 59 * 8);
    }

    private static void notSo() {
        Due.about("24: 0 by 1: not the other sign");
        SeeSawForFive x = Due.of("cc7,0;s0l1;");
        thrownIs(x, 60, 20, -2, 0, 1);
        Due.about("24: 0 by 1: the CHILD's ARM is 0");
        x.notch(1);
        thrownIs(x, 60, 20, -2, 0, 1);
        thrownIs(x, 60, 20, 6, 0, 1);
        Due.about("24: 0 by 1: the SEAT's ARM is 0");
        x.notch(3);
        thrownIs(x, 60, 20, 1, 0, 1);
        Due.about("24: the other sign is that of THE PIVOT's other side");
        x.notch(0);
        // arm 1 of the child, -1 of -3: both left of the middle
        thrownIs(x, 7, 1, -3, 1, 1);
        thrownIs(x, 7, 1, 1, 0, 1);
    }

    private static void leastTerms() {
        Due.about("24: in least terms");
        SeeSawForFive x = Due.of("cc12,0;s0l2;");
        thrownIs(x, 6, 2, 2, 1, 1);
        thrownIs(x, 5, 5, 1, 25, 24);
        thrownIs(x, 12, 2, 6, 6, 1);
        thrownIs(x, 1, 8, 1, 1, 3);
        thrownIs(x, 9, 1, 1, 3, 8);
        thrownIs(x, 1, 1, 1, 1, 24);
    }

    private static void refusedThrows() {
        SeeSawForFive x = Due.of("b4,0;cc1,0;cc1,0;cc1,0;s0l1;s1r2;");
        Due.about("24: -1 SEAT, CHILD");
        for (int seat : new int[] {0, 5, -5, MIN, MAX}) {
            Due.is("seat " + seat, x.thrown(1, 1, seat, 0, 0), -1);
        }
        for (int who : new int[] {-1, 3, MIN, MAX}) {
            Due.is("child " + who, x.thrown(1, 1, 1, who, 0), -1);
        }
        Due.about("24: -2");
        for (int part : new int[] {-1, 2, MIN, MAX}) {
            Due.is("part " + part, x.thrown(1, 1, 1, 0, part), -2);
        }
        Due.about("24: -3 the SEAT is taken, the CHILD sits nowhere");
        Due.is("its own seat", x.thrown(1, 1, -1, 0, 0), -3);
        Due.is("another's seat", x.thrown(1, 1, 2, 0, 0), -3);
        Due.is("sits nowhere", x.thrown(1, 1, 1, 2, 0), -3);
        Due.about("24: -4");
        for (int below : new int[] {0, -1, MIN}) {
            Due.is("weight " + below, x.thrown(below, 1, 1, 0, 0), -4);
            Due.is("feet " + below, x.thrown(1, below, 1, 0, 0), -4);
        }
        Due.about("24: -6 (60; 20)");
        Due.is("weight 61", x.thrown(61, 1, 1, 0, 0), -6);
        Due.is("weight MAX", x.thrown(MAX, 1, 1, 0, 0), -6);
        Due.is("feet 21", x.thrown(1, 21, 1, 0, 0), -6);
        Due.is("feet MAX", x.thrown(1, MAX, 1, 0, 0), -6);
    }

    private static void throwsInOrder() {
        Due.about("24: the first REFUSAL that fits");
        SeeSawForFive x = Due.of("cc1,0;cc1,0;s0l1;");
        Due.is("-1 of all", x.thrown(0, 21, 0, 1, 2), -1);
        Due.is("-1 of all", x.thrown(0, 21, -1, 2, 2), -1);
        Due.is("-2 of -2, -3, -4, -6", x.thrown(0, 21, -1, 1, 2), -2);
        Due.is("-3 of -3, -4, -6", x.thrown(0, 21, -1, 1, 0), -3);
        Due.is("-4 of -4, -6", x.thrown(0, 21, 1, 0, 0), -4);
        Due.is("-4 of -6, -4", x.thrown(61, 0, 1, 0, 0), -4);
        Due.is("each is counted once", x.count(11) * 1000 + x.count(12) * 100 + x.count(13) * 10 + x.count(14), 2112);
        Due.is("count(16)", x.count(16), 0);
        Due.about("24: REFUSALS ahead of 0 by 1");
        Due.is("the same side, weight 0", x.thrown(0, 1, -2, 0, 0), -4);
        Due.is("the same side, feet 21", x.thrown(1, 21, -2, 0, 1), -6);
    }

    private static void highest() {
        Due.about("25: HIGHEST, as 7 and FEET");
        SeeSawForFive x = Due.of("cc1,0;cc1,0;cc1,0;s0l1;");
        Due.is("6 to the right", x.highest(0), 13);
        x.sit(0, 1);
        Due.is("6 to the left", x.highest(0), 1);
        Due.about("25: of free ones");
        x.sit(1, -6);
        Due.is("5 to the left", x.highest(0), 2);
        x.sit(2, -5);
        Due.is("4 to the left", x.highest(0), 3);
        Due.about("25: no farther than LENGTH");
        Due.is("2 to the right", Due.of("b2,0;cc1,0;s0l1;").highest(0), 9);
        Due.is("2 to the left", Due.of("b2,0;cc1,0;s0r1;").highest(0), 5);
        Due.about("25: the other side of THE PIVOT");
        SeeSawForFive y = Due.of("b1,0;t0;cc1,0;s0r1;");
        Due.is("nothing there", y.highest(0), -9);
        SeeSawForFive z = Due.of("b3,0;t0;cc1,0;s0l1;");
        Due.is("left of both", z.highest(0), 4);
    }

    private static void noneToJumpOnto() {
        Due.about("25: -9, as none is free");
        SeeSawForFive x = Due.of("b1,0;cc1,0;cc1,0;s0l1;s1r1;");
        Due.is("highest(0)", x.highest(0), -9);
        Due.is("highest(1)", x.highest(1), -9);
        Due.about("25: -9, as its ARM is 0");
        SeeSawForFive zero = Due.of("t3;cc1,0;s0r1;");
        Due.is("highest(0)", zero.highest(0), -9);
        Due.about("25: a SEAT of ARM 0 is on no side");
        SeeSawForFive edge = Due.of("b1,0;t3;cc1,0;s0l1;");
        Due.is("highest(0)", edge.highest(0), -9);
        Due.about("25: -1");
        for (int who : new int[] {-1, 2, MIN, MAX}) {
            Due.is("highest(" + who + ")", x.highest(who), -1);
        }
        Due.about("25: -3 it sits nowhere");
        x.sit(1, 0);
        Due.is("highest(1)", x.highest(1), -3);
        Due.is("free then", x.highest(0), 8);
    }
}
