import java.util.ArrayList;
import java.util.List;
import java.util.function.Supplier;
import java.util.function.ToIntFunction;

/** "The call answers the number, the first that fits ..; nothing changes but how many there were": each refused call. */
public final class RefusalsTest {
    private static final int APART = 1000000000;

    public static void main(String[] args) {
        everyStateRefuses(RefusalsTest::empty, "a new object");
        everyStateRefuses(RefusalsTest::used, "a used object");
        everyStateRefuses(RefusalsTest::full, "a full object");
        stateOfChildren();
        noImage();
        fullRooms();
        answersThatAreNoRefusals();
        Due.end("RefusalsTest");
    }

    private static SeeSawForFive empty() {
        SeeSawForFive x = new SeeSawForFive();
        x.image();
        return x;
    }

    private static SeeSawForFive used() {
        SeeSawForFive x = Due.of("b5,3;t3;cc10,1;ch20,2;ct30,3;s0l5;s1r2;");
        x.go(1, 30, -1, 0);
        x.guessed(23, 41, 1);
        x.image();
        x.sit(0, 4);
        x.go(-1, 3, 0, 0);
        x.guessed(11, 12, 1);
        x.row(3);
        x.row(7);
        x.letter('t');
        x.letter('4');
        return x;
    }

    private static SeeSawForFive full() {
        SeeSawForFive x = Due.of("b1,99;cc60,9;cc60,9;cc60,9;cc60,9;cc60,9;s0l1;s4r1;");
        x.image();
        for (int i = 0; i < 80; i++) {
            x.letter("t2;".charAt(i % 3));
        }
        for (int i = 0; i < 10; i++) {
            x.go(1, 30, -1, 2);
        }
        for (int i = 0; i < 8; i++) {
            x.guessed(11, 12, 1);
        }
        for (int i = 0; i < 5; i++) {
            x.row(6);
        }
        return x;
    }

    /** Calls that are refused in whatever state. */
    private static void everyStateRefuses(Supplier<SeeSawForFive> state, String name) {
        Due.about(name + ": nothing changes but how many there were");
        refused(state, "letter(-1)", -4, x -> x.letter(-1));
        refused(state, "letter(256)", -6, x -> x.letter(256));
        refused(state, "child(5, 0)", -1, x -> x.child(5, 0));
        refused(state, "child(-1, 3)", -1, x -> x.child(-1, 3));
        refused(state, "seat(5)", APART + 1, x -> x.seat(5));
        refused(state, "sit(5, 0)", -1, x -> x.sit(5, 0));
        refused(state, "sit(0, 7)", -1, x -> x.sit(0, 7));
        refused(state, "sit(0, -7)", -1, x -> x.sit(0, -7));
        refused(state, "notch(-1)", -4, x -> x.notch(-1));
        refused(state, "notch(5)", -6, x -> x.notch(5));
        refused(state, "first(5, 0)", APART + 1, x -> x.first(5, 0));
        refused(state, "first(-1, 2)", APART + 1, x -> x.first(-1, 2));
        refused(state, "bucket(0)", -1, x -> x.bucket(0));
        refused(state, "bucket(7)", -1, x -> x.bucket(7));
        refused(state, "orders(-1)", -4, x -> x.orders(-1));
        refused(state, "order(-1, 0)", -4, x -> x.order(-1, 0));
        refused(state, "order(0, -1)", -4, x -> x.order(0, -1));
        refused(state, "go(0, 0, 1, 0)", -1, x -> x.go(0, 0, 1, 0));
        refused(state, "go(1, -1, 1, 3)", -1, x -> x.go(1, -1, 1, 3));
        refused(state, "go(1, -1, 0, 3)", -4, x -> x.go(1, -1, 0, 3));
        refused(state, "go(1, 100, 0, 3)", -6, x -> x.go(1, 100, 0, 3));
        refused(state, "go(1, 99, 0, 3)", -2, x -> x.go(1, 99, 0, 3));
        refused(state, "fitting(3)", -2, x -> x.fitting(3));
        refused(state, "next(0, 1)", -1, x -> x.next(0, 1));
        refused(state, "next(1, 0)", -1, x -> x.next(1, 0));
        refused(state, "next(-1, -1)", -1, x -> x.next(-1, -1));
        refused(state, "comesDown(2)", -2, x -> x.comesDown(2));
        refused(state, "up(5)", -1, x -> x.up(5));
        refused(state, "thrown(1, 1, 0, 0, 0)", -1, x -> x.thrown(1, 1, 0, 0, 0));
        refused(state, "thrown(0, 21, 1, 5, 2)", -1, x -> x.thrown(0, 21, 1, 5, 2));
        refused(state, "highest(5)", -1, x -> x.highest(5));
        refused(state, "guess(5, 10, 10)", -1, x -> x.guess(5, 10, 10));
        refused(state, "guess(0, 10, 11)", -2, x -> x.guess(0, 10, 11));
        refused(state, "guess(0, 11, 100)", -2, x -> x.guess(0, 11, 100));
        refused(state, "parting(5, 0, 2)", -1, x -> x.parting(5, 0, 2));
        refused(state, "parting(0, 5, 2)", -1, x -> x.parting(0, 5, 2));
        refused(state, "parting(0, 0, 2)", -2, x -> x.parting(0, 0, 2));
        refused(state, "guessed(10, 11, 0)", -2, x -> x.guessed(10, 11, 0));
        refused(state, "guessed(11, 10, 0)", -2, x -> x.guessed(11, 10, 0));
        refused(state, "guessed(11, 11, 3)", -2, x -> x.guessed(11, 11, 3));
        refused(state, "seeds(0, 0, 2)", -4, x -> x.seeds(0, 0, 2));
        refused(state, "seeds(21, 0, 2)", -6, x -> x.seeds(21, 0, 2));
        refused(state, "seeds(1, 0, 2)", -2, x -> x.seeds(1, 0, 2));
        refused(state, "row(-1)", -4, x -> x.row(-1));
        refused(state, "row(14)", -6, x -> x.row(14));
    }

    /** Children 0 and 1 sit on 4 and 2, child 2 sits nowhere; the farthest SEAT is 5. */
    private static void stateOfChildren() {
        Due.about("a CHILD that is there: nothing changes but how many there were");
        Supplier<SeeSawForFive> state = RefusalsTest::used;
        refused(state, "child(0, 3)", -2, x -> x.child(0, 3));
        refused(state, "child(3, 0)", -1, x -> x.child(3, 0));
        refused(state, "first(0, 2)", APART + 2, x -> x.first(0, 2));
        refused(state, "sit(0, 6)", -1, x -> x.sit(0, 6));
        refused(state, "sit(0, 2)", -3, x -> x.sit(0, 2));
        refused(state, "sit(2, 4)", -3, x -> x.sit(2, 4));
        refused(state, "bucket(6)", -1, x -> x.bucket(6));
        refused(state, "bucket(4)", -3, x -> x.bucket(4));
        refused(state, "up(2)", -3, x -> x.up(2));
        refused(state, "highest(2)", -3, x -> x.highest(2));
        refused(state, "thrown(0, 21, -1, 0, 2)", -2, x -> x.thrown(0, 21, -1, 0, 2));
        refused(state, "thrown(0, 21, 2, 0, 0)", -3, x -> x.thrown(0, 21, 2, 0, 0));
        refused(state, "thrown(0, 21, -1, 2, 0)", -3, x -> x.thrown(0, 21, -1, 2, 0));
        refused(state, "thrown(0, 21, -1, 0, 0)", -4, x -> x.thrown(0, 21, -1, 0, 0));
        refused(state, "thrown(61, 0, -1, 0, 0)", -4, x -> x.thrown(61, 0, -1, 0, 0));
        refused(state, "thrown(61, 1, -1, 0, 0)", -6, x -> x.thrown(61, 1, -1, 0, 0));
        refused(state, "thrown(1, 21, -1, 0, 0)", -6, x -> x.thrown(1, 21, -1, 0, 0));
    }

    private static void noImage() {
        Due.about("no IMAGE: nothing changes but how many there were");
        refused(() -> Due.of("b5,3;t3;cc10,1;s0l5;"), "on()", -3, SeeSawForFive::on);
    }

    private static void fullRooms() {
        Due.about("no room: nothing changes but how many there were");
        Supplier<SeeSawForFive> state = RefusalsTest::full;
        refused(state, "letter('t')", -6, x -> x.letter('t'));
        refused(state, "go(1, 0, 0, 0)", -6, x -> x.go(1, 0, 0, 0));
        refused(state, "guessed(11, 11, 1)", -6, x -> x.guessed(11, 11, 1));
        refused(state, "row(0)", -6, x -> x.row(0));
    }

    /** -9, 99 and faults are no REFUSALS. */
    private static void answersThatAreNoRefusals() {
        Due.about("what is no REFUSAL is not counted");
        SeeSawForFive x = Due.of("b1,9;t0;cc1,0;cc1,0;cc1,0;s0l1;");
        x.go(1, 0, 0, 0);
        Due.is("count(9)", x.count(9), -9);
        Due.is("off()", x.off(), -9);
        Due.is("first(0, 0)", x.first(0, 0), 99);
        Due.is("seat(1)", x.seat(1), 99);
        Due.is("bucket(1)", x.bucket(1), -9);
        Due.is("order(0, 3)", x.order(0, 3), -9);
        Due.is("fitting(1)", x.fitting(1), -9);
        Due.is("next(1, -1)", x.next(1, -1), -9);
        Due.is("comesDown(0)", Due.of("cc1,0;").comesDown(0), -9);
        Due.is("highest(0)", x.highest(0), -9);
        Due.is("parting(0, 0, 1)", x.parting(0, 0, 1), -9);
        Due.is("board()", x.board(), -1000);
        Due.is("board()", Due.tell(x, "t9;"), -2000);
        Due.is("judge()", x.judge(), 0);
        for (int what = 11; what <= 16; what++) {
            Due.is("count(" + what + ")", x.count(what), 0);
        }
    }

    /** Compares an object that refused the call with one that was not asked. */
    private static void refused(Supplier<SeeSawForFive> state, String call, int want, ToIntFunction<SeeSawForFive> of) {
        SeeSawForFive asked = state.get();
        SeeSawForFive other = state.get();
        Due.is(call, of.applyAsInt(asked), want);
        int kind = want < 0 ? -want : want - APART;
        for (int i = 1; i <= 6; i++) {
            int more = asked.count(10 + i) - other.count(10 + i);
            Due.is(call + ": more in count(" + (10 + i) + ")", more, i == kind ? 1 : 0);
        }
        List<Integer> is = allThatIsSeen(asked);
        List<Integer> due = allThatIsSeen(other);
        for (int i = 0; i < due.size(); i++) {
            Due.is(call + ": what is seen, " + i, is.get(i), due.get(i));
        }
    }

    private static List<Integer> allThatIsSeen(SeeSawForFive x) {
        List<Integer> seen = new ArrayList<>();
        look(x, seen);
        seen.add(x.judge());
        seen.add(x.board());
        look(x, seen);
        seen.add(x.on());
        look(x, seen);
        return seen;
    }

    private static void look(SeeSawForFive x, List<Integer> seen) {
        for (int what = 0; what <= 8; what++) {
            seen.add(x.count(what));
        }
        for (int i = 0; i < x.count(0); i++) {
            for (int what = 0; what < 3; what++) {
                seen.add(x.child(i, what));
            }
            seen.add(x.seat(i));
            seen.add(x.count(2) < 3 ? x.first(i, 1) : 0);
        }
        int[] all = {x.sum(), x.down(), x.inertia(), x.notchBest(), x.leastBang(), x.fitting(0), x.fitting(1),
            x.fitting(2), x.rules(), x.comesDown(0), x.seeds(20, 1, 0), x.seeds(20, 1, 1)};
        for (int one : all) {
            seen.add(one);
        }
    }
}
