/** Promises 10 to 17: placings, the bucket, the best notch, orders of getting on. */
public final class PlacingsTest {
    public static void main(String[] args) {
        placings();
        placingsAreLookedAtAnew();
        noPlacing();
        buckets();
        bestNotch();
        orders();
        ordersWithOwn();
        Due.end("PlacingsTest");
    }

    private static void placings() {
        // 3 and 6 feet by weights 4 and 2: (-1, 2), (-2, 4), (-3, 6) and the same turned round
        SeeSawForFive x = Due.of("cc4,0;cc2,0;");
        Due.is("level()", x.level(), 6);
        Due.is("off()", x.off(), 0);
        Due.is("first(0, 0)", x.first(0, 0), -3);
        Due.is("first(1, 0)", x.first(1, 0), 6);
        Due.is("first(0, 1)", x.first(0, 1), -3);
        Due.is("first(1, 1)", x.first(1, 1), 6);
        Due.is("who sits now is nothing to it", x.sit(1, -3), 0);
        Due.is("level()", x.level(), 6);
        Due.is("it seats nobody", x.seat(0), 99);
        Due.is("first(2, 0)", x.first(2, 0), 1000000001);
        Due.is("first(-1, 5)", x.first(-1, 5), 1000000001);
        Due.is("first(0, 2)", x.first(0, 2), 1000000002);
        Due.is("first(0, -1)", x.first(0, -1), 1000000002);
        Due.is("count(11)", x.count(11), 2);
        Due.is("count(12)", x.count(12), 2);
        // two feet each side, weights 5 and 3: least off are (-1, 2) and (1, -2) by 1
        SeeSawForFive off = Due.of("b2,0;cc5,0;cc3,0;");
        Due.is("level()", off.level(), 0);
        Due.is("off()", off.off(), 1);
        Due.is("first(0, 0)", off.first(0, 0), 99);
        Due.is("first(0, 1)", off.first(0, 1), -1);
        Due.is("first(1, 1)", off.first(1, 1), 2);
        // all five on standers: every one of 12 * 11 * 10 * 9 * 8
        SeeSawForFive all = Due.of("cn1,0;cn1,0;cn1,0;cn1,0;cn1,0;");
        Due.is("level()", all.level(), 95040);
        Due.is("first(4, 0)", all.first(4, 0), -2);
    }

    private static void placingsAreLookedAtAnew() {
        SeeSawForFive x = Due.of("b2,0;cc1,0;");
        Due.is("level()", x.level(), 0);
        Due.is("off()", x.off(), 1);
        x.image();
        x.notch(4);
        Due.is("notch 4: level()", x.level(), 1);
        Due.is("notch 4: first(0, 0)", x.first(0, 0), 2);
        x.on();
        Due.is("on: level()", x.level(), 0);
        Due.is("on: first(0, 1)", x.first(0, 1), -1);
        Due.is("board()", Due.tell(x, "cc1,0;"), 1);
        Due.is("one more: level()", x.level(), 4);
        Due.is("board()", Due.tell(x, "b1,0;"), 1);
        Due.is("shorter: level()", x.level(), 2);
        Due.is("a fault", Due.tell(x, "t4;t5;"), -2003);
        Due.is("a fault: level()", x.level(), 2);
        Due.is("board()", Due.tell(x, "t1;b1,3;"), 2);
        // arms 0 and 2, own turns 3 to the right
        Due.is("own: off()", x.off(), 5);
    }

    private static void noPlacing() {
        SeeSawForFive x = Due.of("b1,0;cn1,0;cn1,0;cn1,0;");
        Due.is("level()", x.level(), 0);
        Due.is("off()", x.off(), -9);
        Due.is("first(0, 0)", x.first(0, 0), 99);
        Due.is("first(2, 1)", x.first(2, 1), 99);
        SeeSawForFive nobody = Due.of("b6,5;t4;");
        Due.is("nobody: level()", nobody.level(), 0);
        Due.is("nobody: off()", nobody.off(), 10);
        nobody.notch(2);
        Due.is("nobody: level()", nobody.level(), 1);
        Due.is("nobody: off()", nobody.off(), 0);
    }

    private static void buckets() {
        SeeSawForFive x = Due.of("t3;b5,0;cc6,0;s0r4;");
        // SUM 18; arms of -5, -2, -1, 1, 2 are -6, -3, -2, 0, 1
        Due.is("bucket(-5)", x.bucket(-5), 3);
        Due.is("bucket(-2)", x.bucket(-2), 6);
        Due.is("bucket(-3)", x.bucket(-3), -9);
        Due.is("bucket(1)", x.bucket(1), -9);
        Due.is("bucket(2)", x.bucket(2), -9);
        Due.is("bucket(4)", x.bucket(4), -3);
        Due.is("bucket(0)", x.bucket(0), -1);
        Due.is("bucket(6)", x.bucket(6), -1);
        Due.is("bucket(-6)", x.bucket(-6), -1);
        x.sit(0, 1);
        Due.is("level already", x.bucket(5), 0);
        Due.is("level already, arm 0 is taken", x.bucket(1), -3);
        SeeSawForFive most = Due.of("b6,99;t0;");
        Due.is("99 is enough", most.bucket(-4), 99);
        Due.is("99 is not enough", most.bucket(-3), -9);
        Due.is("no other way round", most.bucket(3), -9);
    }

    private static void bestNotch() {
        SeeSawForFive x = Due.of("cc6,0;s0r1;");
        Due.is("notchBest()", x.notchBest(), 3);
        Due.is("it stays as it is", x.count(4), 2);
        // SUMS by notches 0 .. 4: 10, 5, 0, -5, -10 of own 5 alone
        Due.is("notchBest()", Due.of("b6,5;").notchBest(), 2);
        // a hanger of 2 on 1 foot: 8, 6, 4, 2, -4
        Due.is("notchBest()", Due.of("t1;ch2,0;s0r1;").notchBest(), 3);
        // on -2 and 1: 3, 1, -1, -3, -5
        Due.is("of several the least", Due.of("cc1,0;cc1,0;s0l2;s1r1;").notchBest(), 1);
        SeeSawForFive tie = Due.of("cn9,9;s0l1;");
        Due.is("all alike", tie.notchBest(), 0);
    }

    private static void orders() {
        // turns -6, 4, 3 of children 0, 2 and 3; child 1 sits nowhere
        SeeSawForFive x = Due.of("cc3,0;cc9,0;cc2,0;cc3,0;s0l2;s2r2;s3r1;");
        Due.is("orders(7)", x.orders(7), 6);
        Due.is("orders(6)", x.orders(6), 4);
        Due.is("orders(5)", x.orders(5), 2);
        Due.is("orders(4)", x.orders(4), 2);
        Due.is("orders(3)", x.orders(3), 1);
        Due.is("orders(2)", x.orders(2), 0);
        Due.is("leastBang()", x.leastBang(), 3);
        Due.is("order(4, 0)", x.order(4, 0), 2);
        Due.is("order(4, 1)", x.order(4, 1), 0);
        Due.is("order(3, 0)", x.order(3, 0), 3);
        Due.is("order(3, 2)", x.order(3, 2), 2);
        Due.is("order(7, 0)", x.order(7, 0), 0);
        Due.is("order(7, 1)", x.order(7, 1), 2);
        Due.is("order(7, 2)", x.order(7, 2), 3);
        Due.is("order(7, 3)", x.order(7, 3), -9);
        Due.is("order(7, MAX)", x.order(7, Integer.MAX_VALUE), -9);
        Due.is("order(1, 0)", x.order(1, 0), -9);
        Due.is("order(-1, 0)", x.order(-1, 0), -4);
        Due.is("order(0, -1)", x.order(0, -1), -4);
        Due.is("orders(-1)", x.orders(-1), -4);
        Due.is("count(14)", x.count(14), 3);
        Due.is("orders(MAX)", x.orders(Integer.MAX_VALUE), 6);
    }

    private static void ordersWithOwn() {
        SeeSawForFive x = Due.of("b6,9;t3;");
        Due.is("nobody: orders(0)", x.orders(0), 1);
        Due.is("nobody: order(0, 0)", x.order(0, 0), -9);
        Due.is("nobody: leastBang()", x.leastBang(), 0);
        // own turns -9; child 0 by 5 * 2 = 10, child 1 by 1 * -3 = -3
        Due.is("board()", Due.tell(x, "cc5,0;cc1,0;s0r3;s1l2;"), 4);
        Due.is("orders(1)", x.orders(1), 0);
        Due.is("orders(2)", x.orders(2), 1);
        Due.is("order(2, 0)", x.order(2, 0), 0);
        Due.is("order(2, 1)", x.order(2, 1), 1);
        Due.is("leastBang()", x.leastBang(), 2);
        Due.is("orders(12)", x.orders(12), 2);
        Due.is("orders(11)", x.orders(11), 1);
        x.sit(0, 0);
        Due.is("one: leastBang()", x.leastBang(), 12);
    }
}
