/** Promises 21 to 25: inertia, how it turns and comes down, who is up, throws. */
public final class SwingTest {
    public static void main(String[] args) {
        inertia();
        comesDown();
        up();
        upByPushingOff();
        sidesAreThoseOfThePivot();
        thrown();
        highest();
        Due.end("SwingTest");
    }

    private static void inertia() {
        SeeSawForFive x = new SeeSawForFive();
        Due.is("nobody", x.inertia(), 1);
        Due.is("board()", Due.tell(x, "b6,1;"), 1);
        Due.is("own 1", x.inertia(), 1);
        Due.is("board()", Due.tell(x, "b6,50;t1;cn10,0;ct2,0;cc9,9;s0r2;s1l6;"), 7);
        Due.is("arms 3 and -5, by weights alone", x.inertia(), 50 + 90 + 50);
        SeeSawForFive none = Due.of("t3;cc60,0;s0r1;");
        Due.is("arm 0", none.inertia(), 1);
    }

    private static void comesDown() {
        // 4 on 1 foot: 40 by 4 is 10 more a tenth: 10, 30, 60, 100
        SeeSawForFive x = Due.of("cc4,0;s0r1;");
        Due.is("tenths", x.comesDown(0), 4);
        Due.is("hard", x.comesDown(1), 40);
        x.sit(0, -1);
        Due.is("to the left: tenths", x.comesDown(0), 4);
        Due.is("to the left: hard", x.comesDown(1), 40);
        // 6 feet: 10 by 6 is 1: 1, 3, 6, .. 91, 105
        x.sit(0, 6);
        Due.is("slowly: tenths", x.comesDown(0), 14);
        Due.is("slowly: hard", x.comesDown(1), 14);
        // a hanger on 1 foot: 20 a tenth: 20, 60, 120
        SeeSawForFive hanger = Due.of("ch1,0;s0l1;");
        Due.is("hanger: tenths", hanger.comesDown(0), 3);
        Due.is("hanger: hard", hanger.comesDown(1), 60);
        SeeSawForFive level = Due.of("cc4,0;cc4,0;s0r1;s1l1;");
        Due.is("level: tenths", level.comesDown(0), -9);
        Due.is("level: hard", level.comesDown(1), -9);
        SeeSawForFive cut = Due.of("cc6,0;cc6,0;cc1,0;s0r1;s1l1;s2l2;");
        Due.is("cut: sum", cut.sum(), -2);
        Due.is("cut: inertia", cut.inertia(), 16);
        Due.is("20 by 16 is -1", cut.comesDown(0), 14);
        Due.is("board()", Due.tell(cut, "b6,5;"), 1);
        Due.is("20 by 21 is cut to 0", cut.comesDown(0), -9);
        Due.is("comesDown(2)", cut.comesDown(2), -2);
        Due.is("comesDown(-1)", cut.comesDown(-1), -2);
        // an arm of 0 and a hanger there: SUM 60, inertia 1: 600 more a tenth
        SeeSawForFive fast = Due.of("t3;ch60,0;s0r1;");
        Due.is("fast: tenths", fast.comesDown(0), 1);
        Due.is("fast: hard", fast.comesDown(1), 600);
    }

    private static void up() {
        // no legs: it comes down and stays down
        SeeSawForFive x = Due.of("cc4,0;cn1,0;cc1,1;s0r1;s1l1;");
        Due.is("the heavy one", x.up(0), 0);
        Due.is("the stander", x.up(1), 200);
        Due.is("up(2)", x.up(2), -3);
        Due.is("up(3)", x.up(3), -1);
        Due.is("up(-1)", x.up(-1), -1);
        x.sit(0, -2);
        Due.is("right is up, but the stander is left", x.up(1), 0);
        x.sit(1, 1);
        Due.is("right is up", x.up(1), 200);
        SeeSawForFive level = Due.of("cc4,9;cc4,9;s0r1;s1l1;");
        Due.is("level: up(0)", level.up(0), 0);
        Due.is("level: up(1)", level.up(1), 0);
        SeeSawForFive middle = Due.of("t3;cc4,9;cc4,9;s0r1;s1l1;");
        Due.is("arm 0 is never higher", middle.up(0), 0);
        Due.is("left is down", middle.up(1) < 200 ? 1 : 0, 1);
    }

    private static void upByPushingOff() {
        // 10 more a tenth, 4 legs: 20 off: 100, 90 (-10), 90 (0), 100 (10): never below 0
        SeeSawForFive few = Due.of("cc4,4;cn1,0;s0r1;s1l1;b6,0;");
        // the stander makes the inertia 5: 40 by 5 is 8 more a tenth
        Due.is("inertia", few.inertia(), 5);
        Due.is("a weak push", few.up(0), 0);
        Due.is("a weak push", few.up(1), 200);
        // alone, 10 more a tenth, 9 legs: 45 off. Tilts behind the 4th tenth at 100:
        // speeds -35 -25 -15 -5 5 15 25 ..: 65 40 25 20 25 40 65 100: never below 0
        SeeSawForFive nine = Due.of("cc4,9;s0r1;");
        Due.is("never below 0", nine.up(0), 0);
        // 1 more a tenth (6 feet), 9 legs: 45 off; 14 tenths till 100; then speeds -44 -43 -42 ..:
        // 56 13 -29 -70 -100 (there nobody has legs: speed 0, then 1, 2, 3, ..):
        // -99 -97 -94 -90 -85 -79 -72 -64 -55 -45 -34 -22 -9 5 20 36 53 71 90 100
        // below 0: behind 3 tenths (-29, -70, -100) and 13 more: 16 of a round of 5 + 20 tenths
        // 200 - 14 = 186 tenths: 7 rounds of 25 and 11 tenths: 3 + 6 of them below 0 and 2 above
        SeeSawForFive far = Due.of("cc4,9;s0r6;");
        Due.is("rounds", far.up(0), 7 * 16 + 9);
        // the same to the left
        far.sit(0, -6);
        Due.is("rounds to the left", far.up(0), 7 * 16 + 9);
    }

    private static void sidesAreThoseOfThePivot() {
        // pivot 2: seat 1 is on the left of it by arm -1; own 0; SUM -4: 10 more a tenth to the left
        SeeSawForFive x = Due.of("t4;cc4,0;cn1,9;s0r1;s1r2;");
        Due.is("sum", x.sum(), -4);
        Due.is("arm 0 pushes nothing", x.up(0), 0);
        Due.is("arm 0 is not up", x.up(1), 0);
        // legs of seat 1 push off on the left: 40 by 4 is 10 a tenth
        SeeSawForFive y = Due.of("t4;cc4,0;cn1,9;s0r1;s1l6;");
        // arm -8 of the stander: inertia 68, SUM -4: 40 by 68 is 0
        Due.is("too slow", y.up(0), 0);
        SeeSawForFive z = Due.of("t4;ch4,9;s0r1;");
        // SUM -8, inertia 4: 20 a tenth; 45 off: -120 is held to -100 behind 3 tenths;
        // speeds 25, 5, -15, -35 ..: -75 -70 -85 -100
        Due.is("left of the pivot, right of the middle", z.up(0), 0);
        SeeSawForFive far = Due.of("t4;cc1,9;s0r1;cn1,0;s1r6;");
        // arms -1 and 4: inertia 17, SUM -1: nothing moves
        Due.is("far", far.up(0), 0);
        Due.is("board()", Due.tell(far, "b6,1;"), 1);
        // own 1 turns by -2: SUM -3, inertia 18: 30 by 18 is 1 a tenth to the left; 45 off as in rounds
        Due.is("rounds left of the pivot", far.up(0), 7 * 16 + 9);
        // at 100 nobody of the right has legs; it is above 0 for the one on the right when not for the left:
        // 14 tenths below 0, each round 9 of 25, and 2 of the last 11
        Due.is("the other one", far.up(1), 14 + 7 * 9 + 2);
    }

    private static void thrown() {
        SeeSawForFive x = Due.of("cc12,0;cn7,0;cc1,0;s0l2;s1r3;");
        // 10 * 3 * 4 by 12 * 2
        Due.is("above", x.thrown(10, 3, 4, 0, 0), 5);
        Due.is("below", x.thrown(10, 3, 4, 0, 1), 1);
        // 1 * 1 * 1 by 24
        Due.is("above", x.thrown(1, 1, 1, 0, 0), 1);
        Due.is("below", x.thrown(1, 1, 1, 0, 1), 24);
        // 60 * 20 * 6 by 7 * 3
        Due.is("above", x.thrown(60, 20, -6, 1, 0), 2400);
        Due.is("below", x.thrown(60, 20, -6, 1, 1), 7);
        Due.is("the same side: above", x.thrown(60, 20, -6, 0, 0), 0);
        Due.is("the same side: below", x.thrown(60, 20, -6, 0, 1), 1);
        x.notch(0);
        Due.is("its arm 0: above", x.thrown(60, 20, 6, 0, 0), 0);
        Due.is("its arm 0: below", x.thrown(60, 20, 6, 0, 1), 1);
        x.notch(3);
        Due.is("the jumper's arm 0", x.thrown(60, 20, 1, 0, 0), 0);
        Due.is("the jumper's arm 0", x.thrown(60, 20, 1, 0, 1), 1);
        refusedThrows(x);
    }

    private static void refusedThrows(SeeSawForFive x) {
        Due.is("seat 0", x.thrown(0, 0, 0, 2, 2), -1);
        Due.is("seat 7", x.thrown(0, 0, 7, 2, 2), -1);
        Due.is("child 3", x.thrown(0, 0, 1, 3, 2), -1);
        Due.is("part 2", x.thrown(0, 0, -2, 2, 2), -2);
        Due.is("part -1", x.thrown(0, 0, -2, 2, -1), -2);
        Due.is("taken", x.thrown(0, 0, -2, 1, 0), -3);
        Due.is("sits nowhere", x.thrown(0, 0, 1, 2, 0), -3);
        Due.is("weight 0", x.thrown(0, 21, 1, 0, 0), -4);
        Due.is("feet 0", x.thrown(61, 0, 1, 0, 0), -4);
        Due.is("weight 61", x.thrown(61, 1, 1, 0, 0), -6);
        Due.is("feet 21", x.thrown(1, 21, 1, 0, 0), -6);
        Due.is("count(11)", x.count(11), 3);
        Due.is("count(12)", x.count(12), 2);
        Due.is("count(13)", x.count(13), 2);
        Due.is("count(14)", x.count(14), 2);
        Due.is("count(16)", x.count(16), 2);
    }

    private static void highest() {
        SeeSawForFive x = Due.of("b2,0;cc1,0;cc1,0;cc1,0;s0l2;s1r2;");
        Due.is("highest(0)", x.highest(0), 8);
        Due.is("highest(1)", x.highest(1), 6);
        Due.is("highest(2)", x.highest(2), -3);
        Due.is("highest(3)", x.highest(3), -1);
        x.sit(2, 1);
        Due.is("none is free", x.highest(0), -9);
        Due.is("highest(2)", x.highest(2), 6);
        x.notch(0);
        Due.is("arm 0", x.highest(0), -9);
        Due.is("nothing on the other side of the pivot", x.highest(1), -9);
        x.notch(4);
        x.sit(2, 0);
        Due.is("all others are on one side", x.highest(0), -9);
        SeeSawForFive wide = Due.of("cc1,0;s0l1;");
        Due.is("farthest to the right", wide.highest(0), 13);
        wide.sit(0, 1);
        Due.is("farthest to the left", wide.highest(0), 1);
    }
}
