/** Promises 18 to 20: goes, the weights that fit them, the next bucket. */
public final class GoesTest {
    public static void main(String[] args) {
        refusedGoes();
        fitting();
        noBucketStood();
        ownAndNotchAsNow();
        next();
        nextOfFew();
        Due.end("GoesTest");
    }

    private static void refusedGoes() {
        SeeSawForFive x = Due.of("b3,0;");
        Due.is("go(0, ..)", x.go(0, 0, 1, 0), -1);
        Due.is("go(4, ..)", x.go(4, 0, 1, 0), -1);
        Due.is("go(-4, ..)", x.go(-4, 0, 1, 0), -1);
        Due.is("go(.., 4, ..)", x.go(1, 0, 4, 0), -1);
        Due.is("go(.., -4, ..)", x.go(1, 0, -4, 0), -1);
        Due.is("one twice", x.go(2, 0, 2, 0), -1);
        Due.is("seats first", x.go(2, -1, 2, 9), -1);
        Due.is("weight -1", x.go(2, -1, 1, 9), -4);
        Due.is("weight 100", x.go(2, 100, 1, 9), -6);
        Due.is("told 3", x.go(2, 99, 1, 3), -2);
        Due.is("told -1", x.go(2, 0, 1, -1), -2);
        Due.is("nothing came", x.count(5), 0);
        for (int i = 1; i <= 10; i++) {
            Due.is("go " + i, x.go(-3, 99, 3, 2), i);
        }
        Due.is("no room", x.go(-3, 99, 3, 2), -6);
        Due.is("told ahead of room", x.go(-3, 99, 3, 5), -2);
        Due.is("count(5)", x.count(5), 10);
        Due.is("count(11)", x.count(11), 7);
        Due.is("count(12)", x.count(12), 3);
        Due.is("count(14)", x.count(14), 1);
        Due.is("count(16)", x.count(16), 2);
        Due.is("fitting(3)", x.fitting(3), -2);
        Due.is("fitting(-1)", x.fitting(-1), -2);
    }

    private static void fitting() {
        SeeSawForFive x = new SeeSawForFive();
        fits(x, 60, 1, 60);
        // w * 2 is less than 21 * 3
        x.go(2, 21, -3, 0);
        fits(x, 31, 1, 31);
        // w * 3 is more than 10 * 6
        x.go(-3, 10, 6, 0);
        fits(x, 11, 21, 31);
        // w * 1 is 5 * 5
        x.go(1, 5, -5, 1);
        fits(x, 1, 25, 25);
        x.go(1, 99, 2, 0);
        fits(x, 0, -9, -9);
        SeeSawForFive right = new SeeSawForFive();
        right.go(1, 59, -1, 2);
        fits(right, 1, 60, 60);
    }

    private static void fits(SeeSawForFive x, int many, int least, int greatest) {
        Due.is("fitting(0)", x.fitting(0), many);
        Due.is("fitting(1)", x.fitting(1), least);
        Due.is("fitting(2)", x.fitting(2), greatest);
    }

    private static void noBucketStood() {
        SeeSawForFive x = Due.of("t4;");
        // arm of 1 is -1; a bucket of 10 in the middle would turn by -20
        x.go(1, 10, 0, 0);
        fits(x, 60, 1, 60);
        SeeSawForFive level = Due.of("b6,10;t3;");
        // own turns by -10, arm of 2 is 1
        level.go(2, 77, 0, 1);
        fits(level, 1, 10, 10);
        SeeSawForFive empty = new SeeSawForFive();
        empty.go(2, 0, -6, 2);
        fits(empty, 60, 1, 60);
    }

    private static void ownAndNotchAsNow() {
        SeeSawForFive x = new SeeSawForFive();
        x.go(4, 10, -4, 2);
        fits(x, 50, 11, 60);
        x.notch(3);
        // w * 3 is more than 10 * 5
        fits(x, 44, 17, 60);
        Due.is("board()", Due.tell(x, "b3,20;"), 1);
        // w * 3 is more than 10 * 5 + 20, though seat 4 is no more
        fits(x, 37, 24, 60);
        Due.is("children are nothing to it", Due.tell(x, "ct60,0;s0l3;"), 2);
        fits(x, 37, 24, 60);
    }

    private static void next() {
        SeeSawForFive x = Due.of("b3,0;");
        Due.is("next(0, 1)", x.next(0, 1), -1);
        Due.is("next(1, 0)", x.next(1, 0), -1);
        Due.is("next(1, 1)", x.next(1, 1), -1);
        Due.is("next(4, 1)", x.next(4, 1), -1);
        Due.is("next(1, -4)", x.next(1, -4), -1);
        Due.is("count(11)", x.count(11), 5);
        // w against bucket: 29 below 30, 30 above; 31 is as good
        Due.is("next(-1, 1)", x.next(-1, 1), 30);
        // 3 w against bucket: 90 is the 30th
        Due.is("next(-1, 3)", x.next(-1, 3), 90);
        // w against 3 buckets
        Due.is("next(-3, 1)", x.next(-3, 1), 10);
        // the same side parts none
        Due.is("next(1, 2)", x.next(1, 2), 1);
        // 2 w against 3 buckets: 61 is between 30 and 31
        Due.is("next(-3, 2)", x.next(-3, 2), 20);
        x.go(1, 30, -1, 0);
        Due.is("1 .. 29: next(-1, 1)", x.next(-1, 1), 15);
        x.notch(3);
        // arms -2 and 1, and of the go 0 and -2: all fit
        Due.is("fitting(0)", x.fitting(0), 60);
        x.go(2, 30, -1, 1);
        Due.is("fitting(1)", x.fitting(1), 60);
        Due.is("one fits: the least bucket", x.next(2, -2), 1);
        x.go(2, 0, 0, 0);
        Due.is("none fits", x.next(2, -2), -9);
    }

    private static void nextOfFew() {
        SeeSawForFive x = new SeeSawForFive();
        x.go(1, 4, -1, 2);
        x.go(1, 8, -1, 0);
        fits(x, 3, 5, 7);
        // 5, 6 and 7 come apart by 6 alone
        Due.is("next(-1, 1)", x.next(-1, 1), 6);
        Due.is("next(1, -1)", x.next(1, -1), 6);
        // 2 w of 10, 12, 14 against 3 buckets: 9, 12
        Due.is("next(-3, 2)", x.next(-3, 2), 4);
        SeeSawForFive still = Due.of("t3;");
        Due.is("an arm of 0 parts none", still.next(-1, 1), 1);
    }
}
