import java.math.BigInteger;
import java.util.ArrayList;
import java.util.Arrays;
import java.util.List;
import java.util.function.IntPredicate;
import java.util.regex.Matcher;
import java.util.regex.Pattern;

/** A second telling of the document, slow and by other means, to compare the class with. */
final class Model {
    private static final Pattern BOARD = Pattern.compile(
        "(b[0-9],[0-9][0-9]?;|t[0-9];|c[chitbn][0-9][0-9]?,[0-9];|s[0-9][lr][0-9];|o[0-9];)+");

    private static class Kid {
        int weight;
        int legs;
        Integer seat;

        int turn(int arm) { return weight * arm; }
        int number() { return 0; }
        Kid same() { return new Kid(); }
        Kid copy() {
            Kid k = same();
            k.weight = weight;
            k.legs = legs;
            k.seat = seat;
            return k;
        }
    }

    private static class Hanger extends Kid {
        @Override int turn(int arm) { return super.turn(arm) + (arm < 0 ? -weight : weight); }
        @Override int number() { return 1; }
        @Override Kid same() { return new Hanger(); }
    }

    private static class In extends Kid {
        @Override int turn(int arm) { return super.turn(arm > 0 ? arm - 1 : arm < 0 ? arm + 1 : 0); }
        @Override int number() { return 2; }
        @Override Kid same() { return new In(); }
    }

    private static class Twin extends Hanger {
        @Override int turn(int arm) { return super.turn(arm) * 2; }
        @Override int number() { return 3; }
        @Override Kid same() { return new Twin(); }
    }

    private static class Baby extends In {
        @Override int turn(int arm) {
            int whole = super.turn(arm);
            return whole < 0 ? -(-whole / 2) : whole / 2;
        }
        @Override int number() { return 4; }
        @Override Kid same() { return new Baby(); }
    }

    private static class Stander extends Kid {
        @Override int turn(int arm) { return 0; }
        @Override int number() { return 5; }
        @Override Kid same() { return new Stander(); }
    }

    private static final class World {
        int length = 6;
        int own = 0;
        int notch = 2;
        List<Kid> kids = new ArrayList<>();
        List<int[]> goes = new ArrayList<>();
        List<int[]> guesses = new ArrayList<>();

        World copy() {
            World w = new World();
            w.length = length;
            w.own = own;
            w.notch = notch;
            kids.forEach(k -> w.kids.add(k.copy()));
            w.goes.addAll(goes);
            w.guesses.addAll(guesses);
            return w;
        }

        int sum() {
            int pivot = notch - 2;
            int all = 0;
            for (Kid k : kids) {
                if (k.seat != null) {
                    all += k.turn(k.seat - pivot);
                }
            }
            return all - own * pivot;
        }

        Kid on(int seat) {
            return kids.stream().filter(k -> k.seat != null && k.seat == seat).findAny().orElse(null);
        }

        List<Integer> seats() {
            List<Integer> all = new ArrayList<>();
            for (int s = -length; s <= length; s++) {
                if (s != 0) {
                    all.add(s);
                }
            }
            return all;
        }
    }

    private World w = new World();
    private World image = null;
    private StringBuilder letters = new StringBuilder();
    private List<Integer> row = new ArrayList<>();
    private final int[] refused = new int[7];

    private int no(int number) {
        refused[-number]++;
        return number;
    }

    private int noApart(int number) {
        return 1000000000 - no(number);
    }

    private boolean kid(int i) {
        return 0 <= i && i < w.kids.size();
    }

    private boolean place(int s) {
        return w.seats().contains(s);
    }

    int letter(int c) {
        if (c < 0) return no(-4);
        if (c > 255 || letters.length() == 80) return no(-6);
        letters.append((char) c);
        return letters.length();
    }

    int board() {
        String text = letters.toString();
        letters = new StringBuilder();
        for (int k = 1; k <= text.length(); k++) {
            Matcher m = BOARD.matcher(text.substring(0, k));
            if (!m.matches() && !m.hitEnd()) return -1000 - (k - 1);
        }
        if (!BOARD.matcher(text).matches()) return -1000 - text.length();
        World next = w.copy();
        int at = 0;
        int many = 0;
        for (String s : text.split(";")) {
            if (!comes(next, s)) return -2000 - at;
            at += s.length() + 1;
            many++;
        }
        w = next;
        return many;
    }

    private static boolean comes(World next, String s) {
        char c = s.charAt(0);
        if (c == 'b') {
            int length = s.charAt(1) - '0';
            next.own = Integer.parseInt(s.substring(3));
            next.length = length;
            return length >= 1 && length <= 6
                && next.kids.stream().allMatch(k -> k.seat == null || Math.abs(k.seat) <= length);
        }
        if (c == 't') {
            next.notch = s.charAt(1) - '0';
            return next.notch <= 4;
        }
        if (c == 'c') {
            Kid k = List.of(new Kid(), new Hanger(), new In(), new Twin(), new Baby(), new Stander())
                .get("chitbn".indexOf(s.charAt(1)));
            String[] numbers = s.substring(2).split(",");
            k.weight = Integer.parseInt(numbers[0]);
            k.legs = Integer.parseInt(numbers[1]);
            next.kids.add(k);
            return k.weight >= 1 && k.weight <= 60 && next.kids.size() <= 5;
        }
        int i = s.charAt(1) - '0';
        if (i >= next.kids.size()) return false;
        Kid k = next.kids.get(i);
        if (c == 'o') {
            k.seat = null;
            return true;
        }
        int seat = Integer.parseInt(s.substring(3)) * (s.charAt(2) == 'l' ? -1 : 1);
        if (!next.seats().contains(seat) || next.on(seat) != null && next.on(seat) != k) return false;
        k.seat = seat;
        return true;
    }

    int child(int i, int what) {
        if (!kid(i)) return no(-1);
        Kid k = w.kids.get(i);
        return what == 0 ? k.number() : what == 1 ? k.weight : what == 2 ? k.legs : no(-2);
    }

    int seat(int i) {
        if (!kid(i)) return noApart(-1);
        Integer s = w.kids.get(i).seat;
        return s == null ? 99 : s;
    }

    int sit(int i, int s) {
        if (!kid(i) || s != 0 && !place(s)) return no(-1);
        Kid k = w.kids.get(i);
        if (s != 0 && w.on(s) != null && w.on(s) != k) return no(-3);
        int sat = k.seat == null ? 0 : 1;
        k.seat = s == 0 ? null : Integer.valueOf(s);
        return sat;
    }

    int notch(int v) {
        if (v < 0) return no(-4);
        if (v > 4) return no(-6);
        int was = w.notch;
        w.notch = v;
        return was;
    }

    int sum() {
        return w.sum();
    }

    private static int side(long sum) {
        return 1 + Long.signum(sum);
    }

    int down() {
        return side(w.sum());
    }

    /** Every placing by a counter of as many digits as there are children, the first the greatest. */
    private int[] placings() {
        List<Integer> seats = w.seats();
        int n = w.kids.size();
        int m = seats.size();
        int all = (int) Math.round(Math.pow(m, n));
        int level = 0;
        int least = -9;
        int[] first = new int[n];
        Arrays.fill(first, 99);
        World t = w.copy();
        for (int code = 0; code < all; code++) {
            int rest = code;
            int used = 0;
            for (int i = n - 1; i >= 0; i--) {
                used |= 1 << rest % m;
                t.kids.get(i).seat = seats.get(rest % m);
                rest /= m;
            }
            if (Integer.bitCount(used) != n) continue;
            int off = Math.abs(t.sum());
            if (off == 0) level++;
            if (least == -9 || off < least) {
                least = off;
                for (int i = 0; i < n; i++) first[i] = t.kids.get(i).seat;
            }
        }
        int[] told = Arrays.copyOf(first, n + 2);
        told[n] = level;
        told[n + 1] = least;
        return told;
    }

    int level() {
        return placings()[w.kids.size()];
    }

    int first(int i, int off) {
        if (!kid(i)) return noApart(-1);
        if (off < 0 || off > 1) return noApart(-2);
        int[] p = placings();
        return off == 0 && p[w.kids.size()] == 0 ? 99 : p[i];
    }

    int off() {
        return placings()[w.kids.size() + 1];
    }

    int bucket(int s) {
        if (!place(s)) return no(-1);
        if (w.on(s) != null) return no(-3);
        int arm = s - w.notch + 2;
        int need = -w.sum();
        if (need == 0) return 0;
        if (arm == 0 || need % arm != 0) return -9;
        return need / arm >= 0 && need / arm <= 99 ? need / arm : -9;
    }

    int notchBest() {
        World t = w.copy();
        int best = 0;
        int least = Integer.MAX_VALUE;
        for (t.notch = 0; t.notch <= 4; t.notch++) {
            if (Math.abs(t.sum()) < least) {
                least = Math.abs(t.sum());
                best = t.notch;
            }
        }
        return best;
    }

    /** All orders by numbers, each with its bang behind. */
    private List<int[]> allOrders() {
        List<Integer> sitting = new ArrayList<>();
        for (int i = 0; i < w.kids.size(); i++) {
            if (w.kids.get(i).seat != null) sitting.add(i);
        }
        List<List<Integer>> lists = new ArrayList<>();
        lists.add(new ArrayList<>());
        for (int step = 0; step < sitting.size(); step++) {
            List<List<Integer>> longer = new ArrayList<>();
            for (List<Integer> l : lists) {
                for (int i : sitting) {
                    if (!l.contains(i)) {
                        List<Integer> more = new ArrayList<>(l);
                        more.add(i);
                        longer.add(more);
                    }
                }
            }
            lists = longer;
        }
        List<int[]> all = new ArrayList<>();
        for (List<Integer> l : lists) {
            World t = w.copy();
            t.kids.forEach(k -> k.seat = null);
            int bang = 0;
            int[] order = new int[l.size() + 1];
            for (int j = 0; j < l.size(); j++) {
                order[j] = l.get(j);
                t.kids.get(l.get(j)).seat = w.kids.get(l.get(j)).seat;
                bang = Math.max(bang, Math.abs(t.sum()));
            }
            order[l.size()] = bang;
            all.add(order);
        }
        return all;
    }

    int orders(int bang) {
        if (bang < 0) return no(-4);
        return (int) allOrders().stream().filter(o -> o[o.length - 1] <= bang).count();
    }

    int order(int bang, int i) {
        if (bang < 0 || i < 0) return no(-4);
        for (int[] o : allOrders()) {
            if (o[o.length - 1] <= bang) return i < o.length - 1 ? o[i] : -9;
        }
        return -9;
    }

    int leastBang() {
        return allOrders().stream().mapToInt(o -> o[o.length - 1]).min().orElse(0);
    }

    int go(int s, int weight, int other, int told) {
        if (!place(s) || other != 0 && !place(other) || s == other) return no(-1);
        if (weight < 0) return no(-4);
        if (weight > 99) return no(-6);
        if (told < 0 || told > 2) return no(-2);
        if (w.goes.size() == 10) return no(-6);
        w.goes.add(new int[] {s, weight, other, told});
        return w.goes.size();
    }

    private int sideOfGo(int s, int weight, int other, int bucket) {
        World t = new World();
        t.own = w.own;
        t.notch = w.notch;
        Kid k = new Kid();
        k.weight = weight;
        k.seat = s;
        t.kids.add(k);
        if (other != 0) {
            Kid sand = new Kid();
            sand.weight = bucket;
            sand.seat = other;
            t.kids.add(sand);
        }
        return side(t.sum());
    }

    private List<Integer> fits() {
        List<Integer> all = new ArrayList<>();
        for (int weight = 1; weight <= 60; weight++) {
            int is = weight;
            if (w.goes.stream().allMatch(g -> sideOfGo(g[0], is, g[2], g[1]) == g[3])) all.add(weight);
        }
        return all;
    }

    int fitting(int what) {
        if (what < 0 || what > 2) return no(-2);
        List<Integer> f = fits();
        if (what == 0) return f.size();
        return f.isEmpty() ? -9 : f.get(what == 1 ? 0 : f.size() - 1);
    }

    int next(int s, int other) {
        if (!place(s) || !place(other) || s == other) return no(-1);
        List<Integer> f = fits();
        if (f.isEmpty()) return -9;
        int best = -9;
        int least = 1000;
        for (int bucket = 1; bucket <= 99; bucket++) {
            int[] parts = new int[3];
            for (int weight : f) parts[sideOfGo(other, weight, s, bucket)]++;
            int most = Arrays.stream(parts).max().getAsInt();
            if (most < least) {
                least = most;
                best = bucket;
            }
        }
        return best;
    }

    private int arm(Kid k) {
        return k.seat - (w.notch - 2);
    }

    int inertia() {
        int all = w.own;
        for (Kid k : w.kids) {
            if (k.seat != null) all += k.weight * arm(k) * arm(k);
        }
        return all < 1 ? 1 : all;
    }

    /** Tilts behind each of 200 tenths; where it comes down first, and by which speed, stand last. */
    private int[] tilts() {
        int[] tilts = new int[202];
        tilts[200] = -9;
        tilts[201] = -9;
        int speed = 0;
        int tilt = 0;
        int more = (int) (10.0 * w.sum() / inertia());
        for (int t = 0; t < 200; t++) {
            speed += more;
            tilt += speed;
            if (tilt > 100) tilt = 100;
            if (tilt < -100) tilt = -100;
            tilts[t] = tilt;
            if (Math.abs(tilt) == 100) {
                if (tilts[200] == -9) {
                    tilts[200] = t + 1;
                    tilts[201] = Math.abs(speed);
                }
                int legs = 0;
                for (Kid k : w.kids) {
                    if (k.seat != null && Integer.signum(arm(k)) == Integer.signum(tilt)) legs += k.legs;
                }
                speed = -Integer.signum(tilt) * legs * 5;
            }
        }
        return tilts;
    }

    int comesDown(int what) {
        if (what < 0 || what > 1) return no(-2);
        return tilts()[200 + what];
    }

    int up(int i) {
        if (!kid(i)) return no(-1);
        Kid k = w.kids.get(i);
        if (k.seat == null) return no(-3);
        IntPredicate higher = tilt -> arm(k) > 0 && tilt < 0 || arm(k) < 0 && tilt > 0;
        return (int) Arrays.stream(tilts(), 0, 200).filter(higher).count();
    }

    int thrown(int weight, int feet, int s, int i, int part) {
        if (!place(s) || !kid(i)) return no(-1);
        if (part < 0 || part > 1) return no(-2);
        Kid k = w.kids.get(i);
        if (w.on(s) != null || k.seat == null) return no(-3);
        if (weight < 1 || feet < 1) return no(-4);
        if (weight > 60 || feet > 20) return no(-6);
        int jump = s - (w.notch - 2);
        if (jump * arm(k) >= 0) return part == 0 ? 0 : 1;
        BigInteger above = BigInteger.valueOf((long) weight * feet * Math.abs(jump));
        BigInteger below = BigInteger.valueOf((long) k.weight * Math.abs(arm(k)));
        return (part == 0 ? above : below).divide(above.gcd(below)).intValue();
    }

    int highest(int i) {
        if (!kid(i)) return no(-1);
        Kid k = w.kids.get(i);
        if (k.seat == null) return no(-3);
        List<Integer> free = new ArrayList<>(w.seats());
        free.removeIf(s -> w.on(s) != null || (s - (w.notch - 2)) * arm(k) >= 0);
        if (free.isEmpty()) return -9;
        return 7 + (arm(k) > 0 ? free.get(0) : free.get(free.size() - 1));
    }

    private static int guessOf(int rule, int a, int f, int b, int g) {
        int heavy = Integer.compare(b, a);
        int far = Integer.compare(g, f);
        int[] by = {heavy, heavy == 0 ? far : heavy, Integer.compare(b + g, a + f), Integer.compare(b * g, a * f), far};
        return 1 + by[rule];
    }

    private static boolean twoDigits(int told) {
        return String.valueOf(told).matches("[1-9][1-9]");
    }

    int guess(int rule, int left, int right) {
        if (rule < 0 || rule > 4) return no(-1);
        if (!twoDigits(left) || !twoDigits(right)) return no(-2);
        return guessOf(rule, left / 10, left % 10, right / 10, right % 10);
    }

    int parting(int one, int other, int what) {
        if (one < 0 || one > 4 || other < 0 || other > 4) return no(-1);
        if (what < 0 || what > 1) return no(-2);
        int many = 0;
        int first = -9;
        for (int code = 0; code < 256; code++) {
            int a = 1 + code / 64;
            int f = 1 + code / 16 % 4;
            int b = 1 + code / 4 % 4;
            int g = 1 + code % 4;
            if (guessOf(one, a, f, b, g) != guessOf(other, a, f, b, g)) {
                many++;
                if (first == -9) first = 1000 * a + 100 * f + 10 * b + g;
            }
        }
        return what == 0 ? many : first;
    }

    int guessed(int left, int right, int told) {
        if (!twoDigits(left) || !twoDigits(right) || told < 0 || told > 2) return no(-2);
        if (w.guesses.size() == 8) return no(-6);
        w.guesses.add(new int[] {left, right, told});
        return w.guesses.size();
    }

    int rules() {
        int bits = 0;
        for (int rule = 0; rule < 5; rule++) {
            boolean fits = true;
            for (int[] g : w.guesses) {
                fits &= guessOf(rule, g[0] / 10, g[0] % 10, g[1] / 10, g[1] % 10) == g[2];
            }
            bits += fits ? 1 << rule : 0;
        }
        return bits;
    }

    int seeds(int n, int z, int what) {
        if (n < 1) return no(-4);
        if (n > 20) return no(-6);
        if (what < 0 || what > 1) return no(-2);
        World t = w.copy();
        List<Integer> seats = t.seats();
        int often = 0;
        for (int round = 0; round < n; round++) {
            t.kids.forEach(k -> k.seat = null);
            for (Kid k : t.kids) {
                z = (int) ((long) z * 1664525L + 1013904223L);
                int s = seats.get((int) (((z & 0xffffffffL) % 2147483648L >> 8) % seats.size()));
                if (t.on(s) == null) k.seat = s;
            }
            if (side(t.sum()) == what + 1) often++;
        }
        return often;
    }

    int row(int v) {
        if (v < 0) return no(-4);
        if (v > 13 || row.size() == 5) return no(-6);
        row.add(v);
        return row.size();
    }

    int judge() {
        List<Integer> told = row;
        row = new ArrayList<>();
        List<Integer> are = new ArrayList<>();
        w.kids.forEach(k -> are.add(k.seat == null ? 7 : 7 + k.seat));
        if (told.equals(are)) return -9;
        int same = 0;
        while (same < told.size() && same < are.size() && told.get(same).equals(are.get(same))) same++;
        return same;
    }

    int image() {
        image = w.copy();
        return w.kids.size();
    }

    int on() {
        if (image == null) return no(-3);
        w = image.copy();
        return w.kids.size();
    }

    int count(int what) {
        int sit = (int) w.kids.stream().filter(k -> k.seat != null).count();
        int[] all = {w.kids.size(), sit, w.length, w.own, w.notch, w.goes.size(), w.guesses.size(), row.size(),
            letters.length()};
        if (what >= 0 && what < all.length) return all[what];
        return what >= 11 && what <= 16 ? refused[what - 10] : -9;
    }
}
