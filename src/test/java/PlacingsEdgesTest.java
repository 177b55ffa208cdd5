/** The sentences of DOC.md on edges, one by one: placings, the bucket, orders and goes, promises 10 to 20. */
public final class PlacingsEdgesTest {
    private static final int MIN = Integer.MIN_VALUE;
    private static final int MAX = Integer.MAX_VALUE;
    private static final String FIVE = "cc1,0;ch2,0;ci3,0;ct4,0;cb5,0;";

    public static void main(String[] args) {
        noChildren();
        asManyAsSeats();
        byOwnAndPivot();
        moreThanSeats();
        firstOfSeveral();
        firstIsAskedFirst();
        placingsGoWithTheBoard();
        refusedFirst();
        bucketWeights();
        bucketSeats();
        notchBest();
        nobodyGetsOn();
        toldIsNotAbove();
        allGetOn();
        refusedOrders();
        refusedGoes();
        goesAreFull();
        fittingEdges();
        noBucket();
        goesByNow();
        refusedNext();
        nextEdges();
        Due.end("PlacingsEdgesTest");
    }

    private static void placingsAre(SeeSawForFive x, int level, int off) {
        Due.is("level()", x.level(), level);
        Due.is("off()", x.off(), off);
    }

    private static void noChildren() {
        Due.about("10: no CHILD at all is one PLACING");
        SeeSawForFive x = new SeeSawForFive();
        placingsAre(x, 1, 0);
        x.notch(0);
        placingsAre(x, 1, 0);
        Due.about("12: OFF of OWN alone");
        Due.is("board()", Due.tell(x, "b1,99;"), 1);
        placingsAre(x, 0, 198);
        x.notch(4);
        placingsAre(x, 0, 198);
        x.notch(2);
        placingsAre(x, 1, 0);
    }

    private static void asManyAsSeats() {
        Due.about("10: as many CHILDREN as SEATS");
        SeeSawForFive x = Due.of("b1,0;cc1,0;cc1,0;");
        placingsAre(x, 2, 0);
        Due.is("first(0, 0)", x.first(0, 0), -1);
        Due.is("first(1, 0)", x.first(1, 0), 1);
        SeeSawForFive four = Due.of("b2,0;cn1,0;cn1,0;cn1,0;cn1,0;");
        placingsAre(four, 24, 0);
        for (int i = 0; i < 4; i++) {
            Due.is("first(" + i + ", 1)", four.first(i, 1), new int[] {-2, -1, 1, 2}[i]);
        }
        Due.about("10: each on another SEAT, the greatest number of PLACINGS");
        placingsAre(Due.of("cn1,0;cn1,0;cn1,0;cn1,0;cn1,0;"), 12 * 11 * 10 * 9 * 8, 0);
    }

    private static void byOwnAndPivot() {
        Due.about("10: by OWN and THE PIVOT, which part left from right");
        // own turns by -99; 33 * 3 on 4 alone makes it level
        SeeSawForFive x = Due.of("t3;b6,99;cc33,0;");
        placingsAre(x, 1, 0);
        Due.is("first(0, 0)", x.first(0, 0), 4);
        x.notch(1);
        placingsAre(x, 1, 0);
        Due.is("first(0, 0)", x.first(0, 0), -4);
        // own turns by -198, arm 4 is the farthest
        x.notch(4);
        placingsAre(x, 0, 198 - 33 * 4);
        Due.is("first(0, 0)", x.first(0, 0), 99);
        Due.is("first(0, 1)", x.first(0, 1), 6);
    }

    private static void moreThanSeats() {
        Due.about("12: -9 no PLACING");
        SeeSawForFive x = Due.of("b1,0;cn1,0;cn1,0;cn1,0;");
        placingsAre(x, 0, -9);
        placingsAre(Due.of("b2,0;" + FIVE), 0, -9);
        Due.about("11: 99 no PLACING");
        for (int i = 0; i < 3; i++) {
            Due.is("first(" + i + ", 0)", x.first(i, 0), 99);
            Due.is("first(" + i + ", 1)", x.first(i, 1), 99);
        }
        Due.about("11: 99 there is no LEVEL one");
        SeeSawForFive off = Due.of("cc1,0;");
        placingsAre(off, 0, 1);
        Due.is("first(0, 0)", off.first(0, 0), 99);
        Due.about("11: least OFF, though none is LEVEL");
        Due.is("first(0, 1)", off.first(0, 1), -1);
    }

    private static void firstOfSeveral() {
        Due.about("11: gone through by the SEAT of CHILD 0 from the left on, then of 1");
        SeeSawForFive x = Due.of("b3,0;cn1,0;cn1,0;cn1,0;");
        Due.is("first(0, 0)", x.first(0, 0), -3);
        Due.is("first(1, 0)", x.first(1, 0), -2);
        Due.is("first(2, 0)", x.first(2, 0), -1);
        Due.about("11: the first of several that are least OFF");
        // 3 (f + g) + h: h is 3 or -3, f and g together 1 the other way: four pairs for each
        SeeSawForFive off = Due.of("b3,0;cc3,0;cc3,0;cc1,0;");
        placingsAre(off, 8, 0);
        Due.is("first(0, 0)", off.first(0, 0), -3);
        Due.is("first(1, 0)", off.first(1, 0), 2);
        Due.is("first(2, 0)", off.first(2, 0), 3);
        SeeSawForFive tie = Due.of("cc2,0;cc2,0;cc1,0;b2,0;");
        // 2 (f + g) + h: h is 2 or -2, f and g together 1 the other way: two pairs for each
        placingsAre(tie, 4, 0);
        Due.is("first(0, 0)", tie.first(0, 0), -2);
        Due.is("first(1, 0)", tie.first(1, 0), 1);
        Due.is("first(2, 0)", tie.first(2, 0), 2);
        SeeSawForFive both = Due.of("b1,0;cc7,0;");
        placingsAre(both, 0, 7);
        Due.is("left ahead of right", both.first(0, 1), -1);
    }

    private static void firstIsAskedFirst() {
        Due.about("11: first() is asked ahead of all others");
        Due.is("first(0, 0)", Due.of("b2,0;cc2,0;cc1,0;").first(0, 0), -1);
        Due.is("first(1, 1)", Due.of("b2,0;cc2,0;cc1,0;").first(1, 1), 2);
        Due.is("none", Due.of("b1,0;cc1,0;cc1,0;cc1,0;").first(0, 1), 99);
        Due.about("12: off() is asked ahead of all others");
        Due.is("off()", Due.of("b1,0;cc7,0;").off(), 7);
        Due.is("none", Due.of("b1,0;cc1,0;cc1,0;cc1,0;").off(), -9);
    }

    private static void placingsGoWithTheBoard() {
        Due.about("10: by NOTCH, board and image as now");
        SeeSawForFive x = Due.of("b1,0;cc7,0;");
        placingsAre(x, 0, 7);
        x.image();
        x.notch(3);
        placingsAre(x, 1, 0);
        Due.is("first(0, 0)", x.first(0, 0), 1);
        x.notch(1);
        Due.is("first(0, 0)", x.first(0, 0), -1);
        x.on();
        placingsAre(x, 0, 7);
        Due.is("board()", Due.tell(x, "cc7,0;"), 1);
        placingsAre(x, 2, 0);
        Due.is("a refused notch", x.notch(5), -6);
        Due.is("a fault", Due.tell(x, "t4;b2,0;t5;"), -2008);
        placingsAre(x, 2, 0);
        Due.is("on()", x.on(), 1);
        placingsAre(x, 0, 7);
        Due.about("10: all CHILDREN sit, whoever sits now");
        x.sit(0, 1);
        placingsAre(x, 0, 7);
        Due.is("seat(0)", x.seat(0), 1);
    }

    private static void refusedFirst() {
        SeeSawForFive x = Due.of("cc1,0;cc1,0;");
        Due.about("11: refused as told: -1 is 1000000001");
        for (int who : new int[] {-1, 2, MIN, MAX}) {
            Due.is("first(" + who + ", 0)", x.first(who, 0), 1000000001);
            Due.is("first(" + who + ", 2)", x.first(who, 2), 1000000001);
        }
        Due.about("11: -2 is 1000000002");
        for (int off : new int[] {-1, 2, MIN, MAX}) {
            Due.is("first(1, " + off + ")", x.first(1, off), 1000000002);
        }
        Due.is("count(11)", x.count(11), 8);
        Due.is("count(12)", x.count(12), 4);
    }

    private static void bucketWeights() {
        Due.about("13: the least weight is 0");
        SeeSawForFive x = Due.of("cc1,0;");
        Due.is("level already", x.bucket(6), 0);
        Due.about("13: the greatest weight is 99");
        SeeSawForFive most = Due.of("cc33,0;s0r3;");
        Due.is("99 on -1", most.bucket(-1), 99);
        Due.is("33 on -3", most.bucket(-3), 33);
        Due.is("99 by 2", most.bucket(-2), -9);
        SeeSawForFive more = Due.of("cc50,0;s0r2;");
        Due.is("100 on -1", more.bucket(-1), -9);
        Due.is("50 on -2", more.bucket(-2), 50);
        Due.about("13: -9, as no weight below 0 stands there");
        Due.is("on its own side", more.bucket(1), -9);
        Due.about("13: ARM 0 makes nothing LEVEL");
        more.notch(3);
        // SUM 50, arm of 1 is 0
        Due.is("not level", more.bucket(1), -9);
        more.sit(0, 0);
        Due.is("level already", more.bucket(1), 0);
    }

    private static void bucketSeats() {
        Due.about("13: -1 no such SEAT");
        SeeSawForFive x = Due.of("b4,0;cc1,0;cc1,0;s0l4;s1r1;");
        for (int seat : new int[] {0, 5, -5, MIN, MAX}) {
            Due.is("bucket(" + seat + ")", x.bucket(seat), -1);
        }
        Due.about("13: -3 it is taken");
        Due.is("bucket(-4)", x.bucket(-4), -3);
        Due.is("bucket(1)", x.bucket(1), -3);
        Due.is("the other side is free", x.bucket(4), -9);
        Due.is("SUM -3", x.bucket(3), 1);
        x.sit(0, 0);
        Due.is("free then", x.bucket(-4), -9);
        Due.is("SUM 1", x.bucket(-1), 1);
    }

    private static void notchBest() {
        Due.about("14: NOTCH 0 .. 4");
        // a child on s: nearest 0 where the arm is least
        int[] want = {0, 0, 0, 0, 0, 1, 2, 3, 4, 4, 4, 4, 4};
        SeeSawForFive x = Due.of("cc1,0;");
        for (int seat = -6; seat <= 6; seat++) {
            if (seat != 0) {
                x.sit(0, seat);
                Due.is("on " + seat, x.notchBest(), want[seat + 6]);
            }
        }
        Due.about("14: of several the least");
        x.sit(0, 0);
        Due.is("nobody", x.notchBest(), 0);
        // 3, 1, -1, -3, -5 by notches 0 .. 4
        Due.is("1 and -1", Due.of("cc1,0;cc1,0;s0l2;s1r1;").notchBest(), 1);
        // an in on 4: 5, 4, 3, 2, 1; on 3: .. 1, 0; on 2: .. 1, 0, 0
        Due.is("an in, twice 0", Due.of("ci1,0;s0r2;").notchBest(), 3);
        Due.about("14: as all sit now, and it stays as it is");
        SeeSawForFive own = Due.of("b6,5;t4;");
        Due.is("own alone", own.notchBest(), 2);
        Due.is("count(4)", own.count(4), 4);
    }

    private static void nobodyGetsOn() {
        SeeSawForFive x = Due.of("b6,9;t0;cc1,0;");
        Due.about("15: nobody sits: one order");
        Due.is("orders(0)", x.orders(0), 1);
        Due.about("16: -9 none such");
        Due.is("order(0, 0)", x.order(0, 0), -9);
        Due.about("17: 0, if nobody sits");
        Due.is("leastBang()", x.leastBang(), 0);
        Due.about("17: one alone");
        x.sit(0, 6);
        Due.is("leastBang()", x.leastBang(), 18 + 8);
        Due.is("order(26, 0)", x.order(26, 0), 0);
        Due.is("order(26, 1)", x.order(26, 1), -9);
        Due.is("order(25, 0)", x.order(25, 0), -9);
    }

    private static void toldIsNotAbove() {
        SeeSawForFive x = Due.of("cc10,0;cc10,0;s0l1;s1r1;");
        Due.about("15: SUM is above told behind none");
        Due.is("orders(9)", x.orders(9), 0);
        Due.is("orders(10)", x.orders(10), 2);
        Due.is("orders(11)", x.orders(11), 2);
        Due.about("15: without sign");
        Due.is("order(10, 0) goes down on the left", x.order(10, 0), 0);
        Due.about("15: behind each of them, not the last alone");
        Due.is("level at last", x.sum(), 0);
        Due.is("orders(0)", x.orders(0), 0);
        Due.about("16: -9 none such, as no order is quiet");
        Due.is("order(9, 0)", x.order(9, 0), -9);
        Due.about("17: the least number by which there is one");
        Due.is("leastBang()", x.leastBang(), 10);
    }

    private static void allGetOn() {
        SeeSawForFive x = Due.of(FIVE + "s0l1;s1l2;s2r3;s3r4;s4r5;");
        Due.about("15: of all orders of five");
        Due.is("orders(MAX)", x.orders(MAX), 120);
        Due.about("16: the first by CHILDREN's numbers");
        for (int i = 0; i < 5; i++) {
            Due.is("order(MAX, " + i + ")", x.order(MAX, i), i);
        }
        Due.about("16: -9 beyond the last");
        Due.is("order(MAX, 5)", x.order(MAX, 5), -9);
        Due.is("order(MAX, MAX)", x.order(MAX, MAX), -9);
        Due.about("15: CHILDREN who sit now alone");
        x.sit(0, 0);
        x.sit(2, 0);
        Due.is("orders(MAX)", x.orders(MAX), 6);
        Due.is("order(MAX, 0)", x.order(MAX, 0), 1);
        Due.is("order(MAX, 1)", x.order(MAX, 1), 3);
        Due.is("order(MAX, 2)", x.order(MAX, 2), 4);
        Due.is("order(MAX, 3)", x.order(MAX, 3), -9);
    }

    private static void refusedOrders() {
        SeeSawForFive x = Due.of("cc1,0;s0l1;");
        Due.about("15: -4");
        Due.is("orders(-1)", x.orders(-1), -4);
        Due.is("orders(MIN)", x.orders(MIN), -4);
        Due.about("16: -4 either");
        Due.is("order(-1, 0)", x.order(-1, 0), -4);
        Due.is("order(1, -1)", x.order(1, -1), -4);
        Due.is("order(MIN, MIN)", x.order(MIN, MIN), -4);
        Due.is("count(14)", x.count(14), 5);
    }

    private static void refusedGoes() {
        SeeSawForFive x = Due.of("b3,0;");
        Due.about("18: -1 SEATS (0, one twice, too; other may be 0)");
        for (int seat : new int[] {0, 4, -4, MIN, MAX}) {
            Due.is("go(" + seat + ", ..)", x.go(seat, 0, 1, 0), -1);
        }
        for (int other : new int[] {4, -4, MIN, MAX}) {
            Due.is("go(.., " + other + ", ..)", x.go(1, 0, other, 0), -1);
        }
        Due.is("0 twice", x.go(0, 0, 0, 0), -1);
        Due.is("one twice", x.go(-3, 0, -3, 0), -1);
        Due.about("18: -4, -6 weight 99");
        Due.is("weight -1", x.go(3, -1, -3, 0), -4);
        Due.is("weight MIN", x.go(3, MIN, 0, 0), -4);
        Due.is("weight 100", x.go(3, 100, -3, 0), -6);
        Due.is("weight MAX", x.go(3, MAX, 0, 0), -6);
        Due.about("18: -2 told");
        for (int told : new int[] {-1, 3, MIN, MAX}) {
            Due.is("told " + told, x.go(3, 0, -3, told), -2);
        }
        Due.about("18: the first REFUSAL that fits");
        Due.is("-1 of -1, -4, -2", x.go(0, -1, 1, 3), -1);
        Due.is("-4 of -4, -2", x.go(1, -1, 2, 3), -4);
        Due.is("-6 of -6, -2", x.go(1, 100, 2, 3), -6);
        Due.is("nothing came", x.count(5), 0);
        Due.about("18: the edges come");
        Due.is("weight 0", x.go(3, 0, -3, 0), 1);
        Due.is("weight 99", x.go(-3, 99, 3, 2), 2);
        Due.is("other 0", x.go(1, 99, 0, 1), 3);
    }

    private static void goesAreFull() {
        Due.about("18: -6 10 GOES");
        SeeSawForFive x = new SeeSawForFive();
        for (int i = 1; i <= 10; i++) {
            Due.is("go " + i, x.go(1, 0, 0, 2), i);
        }
        Due.is("go 11", x.go(1, 0, 0, 0), -6);
        Due.is("it did not come", x.fitting(0), 60);
        Due.is("-1 ahead of it", x.go(0, 0, 0, 0), -1);
        Due.is("-4 ahead of it", x.go(1, -1, 0, 0), -4);
        Due.is("-2 ahead of it", x.go(1, 0, 0, 3), -2);
        Due.is("count(5)", x.count(5), 10);
        Due.is("count(16)", x.count(16), 1);
        Due.about("18: the tenth counts");
        SeeSawForFive last = new SeeSawForFive();
        for (int i = 1; i <= 9; i++) {
            last.go(1, 0, 0, 2);
        }
        last.go(1, 7, -1, 1);
        Due.is("fitting(0)", last.fitting(0), 1);
        Due.is("fitting(1)", last.fitting(1), 7);
    }

    private static void fits(SeeSawForFive x, int many, int least, int greatest) {
        Due.is("fitting(0)", x.fitting(0), many);
        Due.is("fitting(1)", x.fitting(1), least);
        Due.is("fitting(2)", x.fitting(2), greatest);
    }

    private static void fittingEdges() {
        Due.about("19: WEIGHTS 1 .. 60, without a GO");
        fits(new SeeSawForFive(), 60, 1, 60);
        Due.about("19: the least weight alone");
        SeeSawForFive one = new SeeSawForFive();
        one.go(1, 1, -1, 1);
        fits(one, 1, 1, 1);
        Due.about("19: the greatest weight alone");
        SeeSawForFive sixty = new SeeSawForFive();
        sixty.go(1, 60, -1, 1);
        fits(sixty, 1, 60, 60);
        Due.about("19: none, -9");
        SeeSawForFive none = new SeeSawForFive();
        none.go(1, 61, -1, 1);
        fits(none, 0, -9, -9);
        SeeSawForFive zero = new SeeSawForFive();
        zero.go(1, 0, -1, 1);
        fits(zero, 0, -9, -9);
        Due.about("19: LEFT, LEVEL, RIGHT are parted");
        for (int told = 0; told <= 2; told++) {
            SeeSawForFive x = new SeeSawForFive();
            x.go(1, 30, -1, told);
            fits(x, new int[] {29, 1, 30}[told], new int[] {1, 30, 31}[told], new int[] {29, 30, 60}[told]);
        }
        Due.about("19: -2");
        for (int what : new int[] {-1, 3, MIN, MAX}) {
            Due.is("fitting(" + what + ")", none.fitting(what), -2);
        }
    }

    private static void noBucket() {
        Due.about("18: other 0: no bucket stood, whatever its weight");
        for (int notch = 0; notch <= 4; notch++) {
            SeeSawForFive x = Due.of("t" + notch + ";");
            x.go(6, 99, 0, 2);
            fits(x, 60, 1, 60);
            x.go(-6, 99, 0, 0);
            fits(x, 60, 1, 60);
        }
    }

    private static void goesByNow() {
        Due.about("19: by OWN, NOTCH as now");
        SeeSawForFive x = Due.of("t3;b6,60;");
        // own turns by -60, arm of 2 is 1
        x.go(2, 0, 0, 1);
        fits(x, 1, 60, 60);
        Due.is("board()", Due.tell(x, "b6,61;"), 1);
        fits(x, 0, -9, -9);
        Due.is("board()", Due.tell(x, "b6,1;"), 1);
        fits(x, 1, 1, 1);
        x.notch(2);
        fits(x, 0, -9, -9);
        Due.about("19: he sat alone, whoever sits now");
        SeeSawForFive alone = Due.of("ct60,0;s0r6;");
        alone.go(-1, 0, 0, 0);
        fits(alone, 60, 1, 60);
        Due.about("19: a GO's SEAT may be beyond LENGTH now");
        SeeSawForFive beyond = new SeeSawForFive();
        beyond.go(6, 30, -6, 1);
        Due.is("board()", Due.tell(beyond, "b1,0;"), 1);
        fits(beyond, 1, 30, 30);
    }

    private static void refusedNext() {
        SeeSawForFive x = Due.of("b3,0;");
        Due.about("20: -1 SEATS (0, one twice, too)");
        for (int seat : new int[] {0, 4, -4, MIN, MAX}) {
            Due.is("next(" + seat + ", 1)", x.next(seat, 1), -1);
            Due.is("next(1, " + seat + ")", x.next(1, seat), -1);
        }
        Due.is("next(2, 2)", x.next(2, 2), -1);
        Due.is("next(0, 0)", x.next(0, 0), -1);
        Due.about("20: -9 none FITS");
        x.go(1, 61, -1, 1);
        Due.is("next(3, -3)", x.next(3, -3), -9);
        Due.is("next(0, 1), though none fits", x.next(0, 1), -1);
    }

    private static void nextEdges() {
        Due.about("20: the weight is 1 at least");
        SeeSawForFive x = new SeeSawForFive();
        Due.is("nothing is parted", x.next(1, 2), 1);
        x.go(1, 3, -1, 0);
        Due.is("1 and 2", x.next(-1, 1), 1);
        Due.about("20: 99 at most");
        SeeSawForFive most = new SeeSawForFive();
        most.go(1, 32, -1, 2);
        // 33 .. 60 three feet off: 99 parts 33 from the others, and none below does
        Due.is("99", most.next(-1, 3), 99);
        most.go(1, 33, -1, 2);
        Due.is("100 were too much: all weights alike", most.next(-1, 3), 1);
        Due.about("20: the greatest of FITTING WEIGHTS is in a part, too");
        SeeSawForFive last = new SeeSawForFive();
        last.go(1, 58, -1, 2);
        Due.is("59 and 60", last.next(-1, 1), 59);
        Due.about("20: of several the least");
        SeeSawForFive two = new SeeSawForFive();
        two.go(1, 4, -1, 2);
        two.go(1, 7, -1, 0);
        // 5 and 6: 5 and 6 both part them
        Due.is("5, 6", two.next(-1, 1), 5);
        Due.about("20: the LEVEL part is one of the three");
        SeeSawForFive level = Due.of("t3;b6,10;");
        // the bucket's arm is 1, the other's 0: 10 is LEVEL for all, so no better than 1
        Due.is("all alike by each bucket", level.next(2, 1), 1);
        SeeSawForFive far = Due.of("t3;b6,10;");
        far.go(2, 10, -1, 1);
        fits(far, 1, 30, 30);
        Due.is("one weight alone", far.next(-1, 2), 1);
        Due.about("20: seat that of the bucket, other that on which one sits");
        SeeSawForFive sides = new SeeSawForFive();
        Due.is("next(-3, 1)", sides.next(-3, 1), 10);
        Due.is("next(1, -3)", sides.next(1, -3), 90);
    }
}
