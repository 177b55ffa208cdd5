/** A see-saw for five children; DOC.md tells its words and promises. */
public final class SeeSawForFive {
    private static final int NOBODY = -1;
    private static final int OTHER = -2;
    private static final int STATE = -3;
    private static final int BELOW = -4;
    private static final int ROOM = -6;
    private static final int NONE = -9;
    /** Seats and sums may be below 0, so their calls tell refusals up here. */
    private static final int APART = 1000000000;
    private static final int NOWHERE = 99;

    /** The greatest int, too. */
    private static final int ALL_BUT_SIGN = 0x7fffffff;

    private static final int LEFT = 0;
    private static final int LEVEL = 1;
    private static final int RIGHT = 2;

    private static final int MOST_CHILDREN = 5;
    private static final int MOST_LENGTH = 6;
    private static final int MOST_NOTCH = 4;
    private static final int MIDDLE_NOTCH = 2;
    private static final int MOST_WEIGHT = 60;
    private static final int MOST_BUCKET = 99;
    private static final int MOST_JUMP = 20;
    private static final int MOST_TRIES = 20;
    private static final int MOST_TENTHS = 200;
    private static final int MOST_TILT = 100;
    private static final int ROW_MIDDLE = 7;
    private static final int MOST_OF_ROW = 13;
    private static final int RULES = 5;
    private static final int PARTING_LAST = 44;

    private final Text text;
    private final Board now;
    /** Texts and draws are tried here, so that what now is stays whole. */
    private final Board trial;
    private final Board keptBoard;
    private final Goes goes;
    private final Goes keptGoes;
    private final Guesses guesses;
    private final Guesses keptGuesses;
    private final Placings placings;
    private final Orders orders;
    private final Swing swing;
    private final int[] row;
    private final int[] refusals;
    private int rowMany;
    private boolean kept;

    public SeeSawForFive() {
        text = new Text();
        now = new Board();
        trial = new Board();
        keptBoard = new Board();
        goes = new Goes();
        keptGoes = new Goes();
        guesses = new Guesses();
        keptGuesses = new Guesses();
        placings = new Placings();
        orders = new Orders();
        swing = new Swing();
        row = new int[MOST_CHILDREN];
        refusals = new int[1 - ROOM];
    }

    public int letter(int c) {
        if (c < 0) {
            return refuse(BELOW);
        }
        if (c > 255 || text.isFull()) {
            return refuse(ROOM);
        }
        text.add(c);
        return text.many;
    }

    public int board() {
        int answer = readBoard();
        text.empty();
        return answer;
    }

    public int child(int child, int what) {
        if (!now.hasChild(child)) {
            return refuse(NOBODY);
        }
        switch (what) {
            case 0: return now.kinds[child];
            case 1: return now.weights[child];
            case 2: return now.legs[child];
            default: return refuse(OTHER);
        }
    }

    public int seat(int child) {
        if (!now.hasChild(child)) {
            return refuseApart(NOBODY);
        }
        return now.sits(child) ? now.feet[child] : NOWHERE;
    }

    public int sit(int child, int seat) {
        if (!now.hasChild(child) || seat != 0 && !now.hasSeat(seat)) {
            return refuse(NOBODY);
        }
        if (seat != 0 && now.isTakenByOther(seat, child)) {
            return refuse(STATE);
        }
        int sat = now.sits(child) ? 1 : 0;
        now.feet[child] = seat;
        return sat;
    }

    public int notch(int v) {
        if (v < 0) {
            return refuse(BELOW);
        }
        if (v > MOST_NOTCH) {
            return refuse(ROOM);
        }
        int before = now.notch;
        now.notch = v;
        placings.forget();
        return before;
    }

    public int sum() {
        return now.turned();
    }

    public int down() {
        return sideOf(now.turned());
    }

    public int level() {
        placings.look(now);
        return placings.levelOnes;
    }

    public int first(int child, int off) {
        if (!now.hasChild(child)) {
            return refuseApart(NOBODY);
        }
        if (off != 0 && off != 1) {
            return refuseApart(OTHER);
        }
        placings.look(now);
        // a level placing is least off, so the first of both is one
        boolean none = off == 0 ? placings.least != 0 : placings.least == NONE;
        return none ? NOWHERE : placings.best[child];
    }

    public int off() {
        placings.look(now);
        return placings.least;
    }

    public int bucket(int seat) {
        if (!now.hasSeat(seat)) {
            return refuse(NOBODY);
        }
        if (now.isTaken(seat)) {
            return refuse(STATE);
        }
        int turned = now.turned();
        int arm = now.armOf(seat);
        for (int weight = 0; weight <= MOST_BUCKET; weight++) {
            if (turned + weight * arm == 0) {
                return weight;
            }
        }
        return NONE;
    }

    public int notchBest() {
        int best = 0;
        for (int v = 1; v <= MOST_NOTCH; v++) {
            if (Math.abs(now.turnedBy(v)) < Math.abs(now.turnedBy(best))) {
                best = v;
            }
        }
        return best;
    }

    public int orders(int bang) {
        if (bang < 0) {
            return refuse(BELOW);
        }
        orders.look(now, bang);
        return orders.quiet;
    }

    public int order(int bang, int i) {
        if (bang < 0 || i < 0) {
            return refuse(BELOW);
        }
        orders.look(now, bang);
        return orders.quiet > 0 && i < orders.many ? orders.best[i] : NONE;
    }

    public int leastBang() {
        orders.look(now, 0);
        return orders.leastBang;
    }

    public int go(int seat, int weight, int other, int told) {
        if (!now.hasSeat(seat) || other != 0 && !now.hasSeat(other) || seat == other) {
            return refuse(NOBODY);
        }
        if (weight < 0) {
            return refuse(BELOW);
        }
        if (weight > MOST_BUCKET) {
            return refuse(ROOM);
        }
        if (!isSide(told)) {
            return refuse(OTHER);
        }
        if (goes.isFull()) {
            return refuse(ROOM);
        }
        goes.add(seat, weight, other, told);
        return goes.many;
    }

    public int fitting(int what) {
        if (what < 0 || what > 2) {
            return refuse(OTHER);
        }
        goes.look(now);
        switch (what) {
            case 0: return goes.fitMany;
            case 1: return goes.fitLeast;
            default: return goes.fitMost;
        }
    }

    public int next(int seat, int other) {
        if (!now.hasSeat(seat) || !now.hasSeat(other) || seat == other) {
            return refuse(NOBODY);
        }
        goes.look(now);
        return goes.fitMany == 0 ? NONE : goes.bestBucket(now, seat, other);
    }

    public int inertia() {
        return now.slowness();
    }

    public int comesDown(int what) {
        if (what != 0 && what != 1) {
            return refuse(OTHER);
        }
        swing.start(now);
        for (int tenth = 1; tenth <= MOST_TENTHS; tenth++) {
            swing.turn();
            if (swing.isDown()) {
                return what == 0 ? tenth : Math.abs(swing.speed);
            }
        }
        return NONE;
    }

    public int up(int child) {
        if (!now.hasChild(child)) {
            return refuse(NOBODY);
        }
        if (!now.sits(child)) {
            return refuse(STATE);
        }
        int arm = now.armOf(now.feet[child]);
        int high = 0;
        swing.start(now);
        for (int tenth = 1; tenth <= MOST_TENTHS; tenth++) {
            swing.turn();
            if (areOpposite(arm, swing.tilt)) {
                high++;
            }
            if (swing.isDown()) {
                swing.pushOff(now);
            }
        }
        return high;
    }

    public int thrown(int weight, int feet, int seat, int child, int part) {
        if (!now.hasSeat(seat) || !now.hasChild(child)) {
            return refuse(NOBODY);
        }
        if (part != 0 && part != 1) {
            return refuse(OTHER);
        }
        if (now.isTaken(seat) || !now.sits(child)) {
            return refuse(STATE);
        }
        if (weight < 1 || feet < 1) {
            return refuse(BELOW);
        }
        if (weight > MOST_WEIGHT || feet > MOST_JUMP) {
            return refuse(ROOM);
        }
        int jumped = now.armOf(seat);
        int sat = now.armOf(now.feet[child]);
        if (!areOpposite(jumped, sat)) {
            return part;
        }
        int above = weight * feet * Math.abs(jumped);
        int below = now.weights[child] * Math.abs(sat);
        return inLeastTerms(part == 0 ? above : below, part == 0 ? below : above);
    }

    public int highest(int child) {
        if (!now.hasChild(child)) {
            return refuse(NOBODY);
        }
        if (!now.sits(child)) {
            return refuse(STATE);
        }
        int sat = now.armOf(now.feet[child]);
        int best = NONE;
        int farthest = 0;
        for (int i = 0; i < now.seatsMany(); i++) {
            int seat = now.seatFromLeft(i);
            int arm = now.armOf(seat);
            // how high one flies grows with nothing but the jumper's arm
            if (areOpposite(arm, sat) && !now.isTaken(seat) && Math.abs(arm) > farthest) {
                farthest = Math.abs(arm);
                best = ROW_MIDDLE + seat;
            }
        }
        return best;
    }

    public int guess(int rule, int left, int right) {
        if (!isRule(rule)) {
            return refuse(NOBODY);
        }
        if (!isWeightAndFeet(left) || !isWeightAndFeet(right)) {
            return refuse(OTHER);
        }
        return guessBy(rule, left, right);
    }

    public int parting(int one, int other, int what) {
        if (!isRule(one) || !isRule(other)) {
            return refuse(NOBODY);
        }
        if (what != 0 && what != 1) {
            return refuse(OTHER);
        }
        int many = 0;
        int best = NONE;
        for (int left = 11; left <= PARTING_LAST; left++) {
            for (int right = 11; right <= PARTING_LAST; right++) {
                if (areParted(one, other, left, right)) {
                    best = many == 0 ? 100 * left + right : best;
                    many++;
                }
            }
        }
        return what == 0 ? many : best;
    }

    public int guessed(int left, int right, int told) {
        if (!isWeightAndFeet(left) || !isWeightAndFeet(right) || !isSide(told)) {
            return refuse(OTHER);
        }
        if (guesses.isFull()) {
            return refuse(ROOM);
        }
        guesses.add(left, right, told);
        return guesses.many;
    }

    public int rules() {
        int bits = 0;
        for (int rule = 0; rule < RULES; rule++) {
            if (guesses.fit(rule)) {
                bits |= 1 << rule;
            }
        }
        return bits;
    }

    public int seeds(int n, int z, int what) {
        if (n < 1) {
            return refuse(BELOW);
        }
        if (n > MOST_TRIES) {
            return refuse(ROOM);
        }
        if (what != 0 && what != 1) {
            return refuse(OTHER);
        }
        int wanted = what == 0 ? LEVEL : RIGHT;
        int often = 0;
        int seed = z;
        trial.become(now);
        for (int i = 0; i < n; i++) {
            seed = trial.sitByDraws(seed);
            if (sideOf(trial.turned()) == wanted) {
                often++;
            }
        }
        return often;
    }

    public int row(int v) {
        if (v < 0) {
            return refuse(BELOW);
        }
        if (v > MOST_OF_ROW || rowMany >= row.length) {
            return refuse(ROOM);
        }
        row[rowMany] = v;
        rowMany++;
        return rowMany;
    }

    public int judge() {
        int answer = lookAtRow();
        rowMany = 0;
        return answer;
    }

    public int image() {
        keptBoard.become(now);
        keptGoes.become(goes);
        keptGuesses.become(guesses);
        kept = true;
        return now.children;
    }

    public int on() {
        if (!kept) {
            return refuse(STATE);
        }
        now.become(keptBoard);
        goes.become(keptGoes);
        guesses.become(keptGuesses);
        placings.forget();
        return now.children;
    }

    public int count(int what) {
        switch (what) {
            case 0: return now.children;
            case 1: return now.sitters();
            case 2: return now.length;
            case 3: return now.own;
            case 4: return now.notch;
            case 5: return goes.many;
            case 6: return guesses.many;
            case 7: return rowMany;
            case 8: return text.many;
            default: return what >= 11 && what <= 16 ? refusals[what - 10] : NONE;
        }
    }

    private int refuse(int number) {
        int kind = -number;
        if (kind >= 0 && kind < refusals.length) {
            refusals[kind]++;
        }
        return number;
    }

    private int refuseApart(int number) {
        return APART - refuse(number);
    }

    private int readBoard() {
        int fault = text.faultPlace();
        if (fault >= 0) {
            return -1000 - fault;
        }
        trial.become(now);
        text.place = 0;
        int statements = 0;
        while (statements < Text.MOST && text.place < text.many) {
            int start = text.place;
            if (!text.readStatement() || !trial.takes(text.verb, text.told)) {
                return -2000 - start;
            }
            statements++;
        }
        now.become(trial);
        placings.forget();
        return statements;
    }

    private int lookAtRow() {
        for (int i = 0; i < rowMany && i < now.children; i++) {
            if (row[i] - ROW_MIDDLE != now.feet[i]) {
                return i;
            }
        }
        return rowMany == now.children ? NONE : Math.min(rowMany, now.children);
    }

    private static int sideOf(int turned) {
        if (turned == 0) {
            return LEVEL;
        }
        return turned > 0 ? RIGHT : LEFT;
    }

    private static boolean isSide(int told) {
        return told >= LEFT && told <= RIGHT;
    }

    private static boolean areOpposite(int one, int other) {
        return one > 0 && other < 0 || one < 0 && other > 0;
    }

    /** What is left of part when it is told over other as a fraction; both are above 0. */
    private static int inLeastTerms(int part, int other) {
        int divisor = part;
        int rest = other;
        for (int i = 0; i < 64 && rest > 0; i++) {
            int left = divisor % rest;
            divisor = rest;
            rest = left;
        }
        return divisor > 0 ? part / divisor : part;
    }

    private static boolean isRule(int rule) {
        return rule >= 0 && rule < RULES;
    }

    private static boolean isWeightAndFeet(int told) {
        return told >= 11 && told <= 99 && told % 10 != 0;
    }

    private static boolean areParted(int one, int other, int left, int right) {
        return isOfParting(left) && isOfParting(right) && guessBy(one, left, right) != guessBy(other, left, right);
    }

    /** Between 11 and PARTING_LAST the weight is of 1 .. 4 already: are the feet? */
    private static boolean isOfParting(int told) {
        return told % 10 >= 1 && told % 10 <= PARTING_LAST % 10;
    }

    private static int guessBy(int rule, int left, int right) {
        int heavy = right / 10 - left / 10;
        int far = right % 10 - left % 10;
        switch (rule) {
            case 0: return sideOf(heavy);
            case 1: return sideOf(heavy != 0 ? heavy : far);
            case 2: return sideOf(heavy + far);
            case 3: return sideOf((right / 10) * (right % 10) - (left / 10) * (left % 10));
            default: return sideOf(far);
        }
    }

    /** The letters that came, read statement by statement. */
    private static final class Text {
        static final int MOST = 80;
        static final int END = -1;
        static final int LACKS = -2;

        final int[] letters = new int[MOST];
        int many;
        int place;
        int verb;
        /** What the statement read last tells, but for its verb and signs. */
        final int[] told = new int[3];

        boolean isFull() {
            return many >= MOST;
        }

        void add(int c) {
            if (!isFull()) {
                letters[many] = c;
                many++;
            }
        }

        void empty() {
            many = 0;
            place = 0;
        }

        /** The place of the letter with which no board can go on, or -1. */
        int faultPlace() {
            place = 0;
            int statements = 0;
            while (statements < MOST && (statements == 0 || place < many)) {
                if (!readStatement()) {
                    return place;
                }
                statements++;
            }
            return -1;
        }

        /** Where it fails, place is that of the letter that does not go on. */
        boolean readStatement() {
            verb = here();
            String form = formOf(verb);
            if (form.isEmpty()) {
                return false;
            }
            place++;
            int values = 0;
            for (int i = 0; i < form.length(); i++) {
                char part = form.charAt(i);
                int value = part == 'N' ? readNumber() : readSign(part);
                if (value == LACKS) {
                    return false;
                }
                if (part != ',' && part != ';' && values < told.length) {
                    told[values] = value;
                    values++;
                }
            }
            return true;
        }

        /** D a digit, N one or two, K a kind, S a side; other signs are themselves. */
        private static String formOf(int verb) {
            switch (verb) {
                case 'b': return "D,N;";
                case 't': return "D;";
                case 'c': return "KN,D;";
                case 's': return "DSD;";
                case 'o': return "D;";
                default: return "";
            }
        }

        private int here() {
            return place >= 0 && place < many ? letters[place] : END;
        }

        private int readNumber() {
            int first = digitOf(here());
            if (first == LACKS) {
                return LACKS;
            }
            place++;
            int second = digitOf(here());
            if (second == LACKS) {
                return first;
            }
            place++;
            return 10 * first + second;
        }

        private int readSign(char part) {
            int value = valueOf(part, here());
            if (value != LACKS) {
                place++;
            }
            return value;
        }

        private static int valueOf(char part, int c) {
            switch (part) {
                case 'D': return digitOf(c);
                case 'K': return kindOf(c);
                case 'S': return sideOfLetter(c);
                default: return c == part ? c : LACKS;
            }
        }

        private static int digitOf(int c) {
            return c >= '0' && c <= '9' ? c - '0' : LACKS;
        }

        private static int kindOf(int c) {
            switch (c) {
                case 'c': return Board.CHILD;
                case 'h': return Board.HANGER;
                case 'i': return Board.IN;
                case 't': return Board.TWIN;
                case 'b': return Board.BABY;
                case 'n': return Board.STANDER;
                default: return LACKS;
            }
        }

        private static int sideOfLetter(int c) {
            if (c == 'l') {
                return -1;
            }
            return c == 'r' ? 1 : LACKS;
        }
    }

    /** What is told of the board and its children, and who sits where. */
    private static final class Board {
        static final int CHILD = 0;
        static final int HANGER = 1;
        static final int IN = 2;
        static final int TWIN = 3;
        static final int BABY = 4;
        static final int STANDER = 5;

        int length = MOST_LENGTH;
        int own;
        int notch = MIDDLE_NOTCH;
        int children;
        final int[] kinds = new int[MOST_CHILDREN];
        final int[] weights = new int[MOST_CHILDREN];
        final int[] legs = new int[MOST_CHILDREN];
        /** 0: it sits nowhere. */
        final int[] feet = new int[MOST_CHILDREN];

        void become(Board other) {
            length = other.length;
            own = other.own;
            notch = other.notch;
            children = other.children;
            System.arraycopy(other.kinds, 0, kinds, 0, MOST_CHILDREN);
            System.arraycopy(other.weights, 0, weights, 0, MOST_CHILDREN);
            System.arraycopy(other.legs, 0, legs, 0, MOST_CHILDREN);
            System.arraycopy(other.feet, 0, feet, 0, MOST_CHILDREN);
        }

        boolean hasChild(int child) {
            return child >= 0 && child < children;
        }

        boolean hasSeat(int seat) {
            return seat != 0 && seat >= -length && seat <= length;
        }

        boolean sits(int child) {
            return hasChild(child) && feet[child] != 0;
        }

        boolean isTaken(int seat) {
            return isTakenByOther(seat, -1);
        }

        boolean isTakenByOther(int seat, int child) {
            for (int i = 0; i < children; i++) {
                if (i != child && feet[i] == seat) {
                    return true;
                }
            }
            return false;
        }

        int sitters() {
            int many = 0;
            for (int i = 0; i < children; i++) {
                many += sits(i) ? 1 : 0;
            }
            return many;
        }

        int seatsMany() {
            return 2 * length;
        }

        int seatFromLeft(int i) {
            return i < length ? i - length : i - length + 1;
        }

        int armOf(int seat) {
            return seat - (notch - MIDDLE_NOTCH);
        }

        int ownTurn() {
            return ownTurnBy(notch);
        }

        int turned() {
            return turnedBy(notch);
        }

        int turnedBy(int anyNotch) {
            int turned = ownTurnBy(anyNotch);
            for (int i = 0; i < children; i++) {
                if (sits(i)) {
                    turned += turnOf(kinds[i], weights[i], feet[i] - (anyNotch - MIDDLE_NOTCH));
                }
            }
            return turned;
        }

        /** The turn of a child, were it on that seat. */
        int turnOn(int child, int seat) {
            return turnOf(kinds[child], weights[child], armOf(seat));
        }

        int slowness() {
            int together = own;
            for (int i = 0; i < children; i++) {
                if (sits(i)) {
                    int arm = armOf(feet[i]);
                    together += weights[i] * arm * arm;
                }
            }
            return Math.max(1, together);
        }

        /** The legs of all whose arm has the sign of side. */
        int legsOn(int side) {
            int together = 0;
            for (int i = 0; i < children; i++) {
                if (sits(i) && armOf(feet[i]) * side > 0) {
                    together += legs[i];
                }
            }
            return together;
        }

        /** A statement comes; false if it is not as it must be. */
        boolean takes(int verb, int[] told) {
            switch (verb) {
                case 'b': return takesLength(told[0], told[1]);
                case 't': return takesNotch(told[0]);
                case 'c': return takesChild(told[0], told[1], told[2]);
                case 's': return takesSeat(told[0], told[1] * told[2]);
                default: return takesOff(told[0]);
            }
        }

        /** All sit by draws anew; the answer is the seed behind them. */
        int sitByDraws(int seed) {
            int z = seed;
            for (int i = 0; i < children; i++) {
                feet[i] = 0;
            }
            for (int i = 0; i < children; i++) {
                z = z * 1664525 + 1013904223;
                int seat = seatFromLeft(drawn(z, seatsMany()));
                if (!isTaken(seat)) {
                    feet[i] = seat;
                }
            }
            return z;
        }

        private static int drawn(int z, int below) {
            return below < 1 ? 0 : (z & ALL_BUT_SIGN) / 256 % below;
        }

        private int ownTurnBy(int anyNotch) {
            return -own * (anyNotch - MIDDLE_NOTCH);
        }

        private static int turnOf(int kind, int weight, int arm) {
            switch (kind) {
                case CHILD: return weight * arm;
                case HANGER: return hangerTurn(weight, arm);
                case IN: return inTurn(weight, arm);
                case TWIN: return 2 * hangerTurn(weight, arm);
                case BABY: return inTurn(weight, arm) / 2;
                default: return 0;
            }
        }

        private static int hangerTurn(int weight, int arm) {
            return weight * (arm < 0 ? arm - 1 : arm + 1);
        }

        private static int inTurn(int weight, int arm) {
            return weight * (arm - Integer.signum(arm));
        }

        private boolean takesLength(int toldLength, int toldOwn) {
            if (toldLength < 1 || toldLength > MOST_LENGTH) {
                return false;
            }
            for (int i = 0; i < children; i++) {
                if (Math.abs(feet[i]) > toldLength) {
                    return false;
                }
            }
            length = toldLength;
            own = toldOwn;
            return true;
        }

        private boolean takesNotch(int v) {
            if (v < 0 || v > MOST_NOTCH) {
                return false;
            }
            notch = v;
            return true;
        }

        private boolean takesChild(int kind, int weight, int itsLegs) {
            if (weight < 1 || weight > MOST_WEIGHT || children >= MOST_CHILDREN) {
                return false;
            }
            kinds[children] = kind;
            weights[children] = weight;
            legs[children] = itsLegs;
            feet[children] = 0;
            children++;
            return true;
        }

        private boolean takesSeat(int child, int seat) {
            if (!hasChild(child) || !hasSeat(seat) || isTakenByOther(seat, child)) {
                return false;
            }
            feet[child] = seat;
            return true;
        }

        private boolean takesOff(int child) {
            if (!hasChild(child)) {
                return false;
            }
            feet[child] = 0;
            return true;
        }
    }

    /** All placings gone through once for as long as the board stays as it is. */
    private static final class Placings {
        boolean looked;
        int levelOnes;
        int least;
        final int[] best = new int[MOST_CHILDREN];
        private int children;
        private int seats;
        private final int[] at = new int[MOST_CHILDREN];
        private final int[] feet = new int[2 * MOST_LENGTH];
        private final int[][] turns = new int[MOST_CHILDREN][2 * MOST_LENGTH];

        void forget() {
            looked = false;
        }

        void look(Board board) {
            if (looked) {
                return;
            }
            children = board.children;
            seats = board.seatsMany();
            for (int s = 0; s < seats; s++) {
                feet[s] = board.seatFromLeft(s);
                for (int i = 0; i < children; i++) {
                    turns[i][s] = board.turnOn(i, feet[s]);
                }
            }
            levelOnes = 0;
            least = NONE;
            goThrough(0, 0, board.ownTurn());
            looked = true;
        }

        private void goThrough(int child, int taken, int turned) {
            if (child >= children || child >= MOST_CHILDREN) {
                weigh(turned);
                return;
            }
            for (int s = 0; s < seats; s++) {
                if ((taken >> s & 1) == 0) {
                    at[child] = feet[s];
                    goThrough(child + 1, taken | 1 << s, turned + turns[child][s]);
                }
            }
        }

        private void weigh(int turned) {
            int off = Math.abs(turned);
            if (off == 0) {
                levelOnes++;
            }
            if (least == NONE || off < least) {
                least = off;
                System.arraycopy(at, 0, best, 0, MOST_CHILDREN);
            }
        }
    }

    /** All orders in which those who sit now can get on. */
    private static final class Orders {
        int many;
        int quiet;
        int leastBang;
        final int[] best = new int[MOST_CHILDREN];
        private int bang;
        private final int[] sitters = new int[MOST_CHILDREN];
        private final int[] turns = new int[MOST_CHILDREN];
        private final int[] at = new int[MOST_CHILDREN];

        void look(Board board, int toldBang) {
            bang = toldBang;
            many = 0;
            for (int i = 0; i < board.children; i++) {
                if (board.sits(i)) {
                    sitters[many] = i;
                    turns[many] = board.turnOn(i, board.feet[i]);
                    many++;
                }
            }
            quiet = 0;
            leastBang = ALL_BUT_SIGN;
            goThrough(0, 0, board.ownTurn(), 0);
        }

        private void goThrough(int depth, int on, int turned, int worst) {
            if (depth >= many || depth >= MOST_CHILDREN) {
                hear(worst);
                return;
            }
            for (int i = 0; i < many; i++) {
                if ((on >> i & 1) == 0) {
                    int then = turned + turns[i];
                    at[depth] = sitters[i];
                    goThrough(depth + 1, on | 1 << i, then, Math.max(worst, Math.abs(then)));
                }
            }
        }

        private void hear(int worst) {
            leastBang = Math.min(leastBang, worst);
            if (worst > bang) {
                return;
            }
            if (quiet == 0) {
                System.arraycopy(at, 0, best, 0, MOST_CHILDREN);
            }
            quiet++;
        }
    }

    /** The goes that were told, and the weights that fit them. */
    private static final class Goes {
        static final int MOST = 10;

        int many;
        int fitMany;
        int fitLeast;
        int fitMost;
        private final int[] seats = new int[MOST];
        private final int[] weights = new int[MOST];
        private final int[] others = new int[MOST];
        private final int[] told = new int[MOST];
        private final boolean[] fits = new boolean[MOST_WEIGHT + 1];
        private final int[] parts = new int[RIGHT + 1];

        void become(Goes other) {
            many = other.many;
            System.arraycopy(other.seats, 0, seats, 0, MOST);
            System.arraycopy(other.weights, 0, weights, 0, MOST);
            System.arraycopy(other.others, 0, others, 0, MOST);
            System.arraycopy(other.told, 0, told, 0, MOST);
        }

        boolean isFull() {
            return many >= MOST;
        }

        void add(int seat, int weight, int other, int toldSide) {
            if (!isFull()) {
                seats[many] = seat;
                weights[many] = weight;
                others[many] = other;
                told[many] = toldSide;
                many++;
            }
        }

        void look(Board board) {
            fitMany = 0;
            fitLeast = NONE;
            fitMost = NONE;
            for (int weight = 1; weight <= MOST_WEIGHT; weight++) {
                fits[weight] = fit(board, weight);
                if (fits[weight]) {
                    fitLeast = fitMany == 0 ? weight : fitLeast;
                    fitMost = weight;
                    fitMany++;
                }
            }
        }

        /** The bucket that parts the weights looked at best. */
        int bestBucket(Board board, int seat, int sitter) {
            int best = NONE;
            int least = ALL_BUT_SIGN;
            for (int bucket = 1; bucket <= MOST_BUCKET; bucket++) {
                int greatest = greatestPart(board.ownTurn() + bucket * board.armOf(seat), board.armOf(sitter));
                if (greatest < least) {
                    least = greatest;
                    best = bucket;
                }
            }
            return best;
        }

        private int greatestPart(int turned, int arm) {
            parts[LEFT] = 0;
            parts[LEVEL] = 0;
            parts[RIGHT] = 0;
            for (int weight = 1; weight <= MOST_WEIGHT; weight++) {
                if (fits[weight]) {
                    parts[sideOf(turned + weight * arm)]++;
                }
            }
            return Math.max(parts[LEFT], Math.max(parts[LEVEL], parts[RIGHT]));
        }

        private boolean fit(Board board, int weight) {
            for (int i = 0; i < many; i++) {
                // on seat 0 no bucket stood, whatever its weight
                int bucketTurn = others[i] == 0 ? 0 : weights[i] * board.armOf(others[i]);
                int turned = board.ownTurn() + weight * board.armOf(seats[i]) + bucketTurn;
                if (sideOf(turned) != told[i]) {
                    return false;
                }
            }
            return true;
        }
    }

    /** The guesses that were made. */
    private static final class Guesses {
        static final int MOST = 8;

        int many;
        private final int[] lefts = new int[MOST];
        private final int[] rights = new int[MOST];
        private final int[] told = new int[MOST];

        void become(Guesses other) {
            many = other.many;
            System.arraycopy(other.lefts, 0, lefts, 0, MOST);
            System.arraycopy(other.rights, 0, rights, 0, MOST);
            System.arraycopy(other.told, 0, told, 0, MOST);
        }

        boolean isFull() {
            return many >= MOST;
        }

        void add(int left, int right, int toldSide) {
            if (!isFull()) {
                lefts[many] = left;
                rights[many] = right;
                told[many] = toldSide;
                many++;
            }
        }

        boolean fit(int rule) {
            for (int i = 0; i < many; i++) {
                if (guessBy(rule, lefts[i], rights[i]) != told[i]) {
                    return false;
                }
            }
            return true;
        }
    }

    /** How the board turns, tenth by tenth, from level on. */
    private static final class Swing {
        int speed;
        int tilt;
        private int gain;

        void start(Board board) {
            speed = 0;
            tilt = 0;
            gain = 10 * board.turned() / Math.max(1, board.slowness());
        }

        void turn() {
            speed += gain;
            tilt = Math.max(-MOST_TILT, Math.min(MOST_TILT, tilt + speed));
        }

        boolean isDown() {
            return tilt == MOST_TILT || tilt == -MOST_TILT;
        }

        void pushOff(Board board) {
            int push = 5 * board.legsOn(tilt);
            speed = tilt > 0 ? -push : push;
        }
    }
}
