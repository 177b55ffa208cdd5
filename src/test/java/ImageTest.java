/** Promises 30 to 35: seeds, the row, the image, counts. */
public final class ImageTest {
    public static void main(String[] args) {
        seeds();
        row();
        image();
        counts();
        Due.end("ImageTest");
    }

    private static void seeds() {
        SeeSawForFive x = new SeeSawForFive();
        Due.is("seeds(0, ..)", x.seeds(0, 1, 7), -4);
        Due.is("seeds(21, ..)", x.seeds(21, 1, 7), -6);
        Due.is("seeds(1, 1, 2)", x.seeds(1, 1, 2), -2);
        Due.is("seeds(1, 1, -1)", x.seeds(1, 1, -1), -2);
        Due.is("nobody: level", x.seeds(20, 1, 0), 20);
        Due.is("nobody: right", x.seeds(20, 1, 1), 0);
        // z of 0 becomes 1013904223: 3960563 modulo 12 is 11: the rightmost seat
        SeeSawForFive one = Due.of("cc5,0;");
        Due.is("first draw", one.seeds(1, 0, 1), 1);
        Due.is("it stays nowhere", one.seat(0), 99);
        // 3960563 modulo 2 is 1, of one foot either way that is the right one, of arm 0 by notch 3
        SeeSawForFive shorter = Due.of("b1,0;t3;cc5,0;");
        Due.is("first draw", shorter.seeds(1, 0, 0), 1);
        Due.is("first draw", shorter.seeds(1, 0, 1), 0);
        SeeSawForFive sitting = Due.of("cc5,0;cc3,0;s0l1;s1r2;");
        Due.is("who sits now is nothing to it", sitting.seeds(20, 3, 1), Due.of("cc5,0;cc3,0;").seeds(20, 3, 1));
        Due.is("seat(0)", sitting.seat(0), -1);
        Due.is("seat(1)", sitting.seat(1), 2);
        // one foot either way: two of the same weight are level unless the second is off
        SeeSawForFive two = Due.of("b1,0;cc5,0;cc5,0;");
        int level = 0;
        int z = 77;
        for (int i = 0; i < 20; i++) {
            z = z * 1664525 + 1013904223;
            int a = (z & 0x7fffffff) / 256 % 2;
            z = z * 1664525 + 1013904223;
            level += a != (z & 0x7fffffff) / 256 % 2 ? 1 : 0;
        }
        Due.is("two", two.seeds(20, 77, 0), level);
    }

    private static void row() {
        SeeSawForFive x = Due.of("cc1,0;cc1,0;s0l6;");
        Due.is("row(-1)", x.row(-1), -4);
        Due.is("row(14)", x.row(14), -6);
        Due.is("empty: too short", x.judge(), 0);
        rowIs(x, -9, 1, 7);
        rowIs(x, 0, 2, 7);
        rowIs(x, 1, 1, 8);
        rowIs(x, 1, 1);
        rowIs(x, 2, 1, 7, 7);
        rowIs(x, 0, 7);
        rowIs(x, 0, 0, 0, 0, 0, 0);
        x.sit(1, 6);
        rowIs(x, -9, 1, 13);
        rowIs(x, 1, 1, 7);
        SeeSawForFive full = new SeeSawForFive();
        for (int i = 1; i <= 5; i++) {
            Due.is("row", full.row(0), i);
        }
        Due.is("no room", full.row(0), -6);
        Due.is("below first", full.row(-1), -4);
        Due.is("count(7)", full.count(7), 5);
        Due.is("too long", full.judge(), 0);
        Due.is("count(7)", full.count(7), 0);
        Due.is("nobody and none", full.judge(), -9);
    }

    private static void rowIs(SeeSawForFive x, int want, int... numbers) {
        for (int i = 0; i < numbers.length; i++) {
            Due.is("row(" + numbers[i] + ")", x.row(numbers[i]), i + 1);
        }
        Due.is("judge()", x.judge(), want);
        Due.is("the row has none then", x.count(7), 0);
    }

    private static void image() {
        SeeSawForFive x = Due.of("b5,3;t1;cc10,1;ch20,2;s0l5;");
        x.go(1, 0, 0, 2);
        x.guessed(23, 41, 1);
        Due.is("image()", x.image(), 2);
        Due.is("board()", Due.tell(x, "o0;b2,9;t4;ci30,3;cb40,4;s1r2;"), 6);
        x.go(1, 0, 0, 0);
        x.guessed(23, 41, 2);
        x.row(3);
        x.letter('t');
        int refused = x.row(99);
        Due.is("row(99)", refused, -6);
        Due.is("on()", x.on(), 2);
        int[] want = {2, 1, 5, 3, 1, 1, 1, 1, 1, -9};
        for (int what = 0; what < want.length; what++) {
            Due.is("on: count(" + what + ")", x.count(what), want[what]);
        }
        Due.is("on: refusals stay", x.count(16), 1);
        Due.is("on: seat(0)", x.seat(0), -5);
        Due.is("on: seat(1)", x.seat(1), 99);
        Due.is("on: child(2, 0)", x.child(2, 0), -1);
        Due.is("on: rules()", x.rules(), 4);
        Due.is("on: fitting(0)", x.fitting(0), 60);
        Due.is("on: a child anew", Due.tell(x, "2;cn9,9;"), 2);
        Due.is("on: it sits nowhere", x.seat(2), 99);
        Due.is("on() again", x.on(), 2);
        Due.is("on: notch", x.count(4), 1);
        x.sit(0, 0);
        Due.is("image() anew", x.image(), 2);
        x.sit(0, 1);
        x.on();
        Due.is("on: seat(0)", x.seat(0), 99);
    }

    private static void counts() {
        SeeSawForFive x = new SeeSawForFive();
        int[] others = {-1, 9, 10, 17, Integer.MIN_VALUE, Integer.MAX_VALUE};
        for (int what : others) {
            Due.is("count(" + what + ")", x.count(what), -9);
        }
        for (int what = 11; what <= 16; what++) {
            Due.is("-9 is no refusal", x.count(what), 0);
        }
        x.seat(0);
        x.first(0, 0);
        x.count(99);
        x.fitting(7);
        x.on();
        x.letter(-1);
        x.letter(999);
        x.letter(999);
        int[] want = {2, 1, 1, 1, 0, 2};
        for (int i = 0; i < want.length; i++) {
            Due.is("count(" + (11 + i) + ")", x.count(11 + i), want[i]);
        }
    }
}
