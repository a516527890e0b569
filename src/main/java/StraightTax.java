import java.util.Arrays;

/** A town whose tax grows with the steps since one last turned; ../shared/DOC.md tells each call. */
public final class StraightTax {
    public static final int BAD = -1, STATE = -2, FULL = -3, NONE = -9;
    public static final int NO = -1000000;

    private static final int NOT_SO_MANY = -5;
    private static final int FIRST_FAULT = -10;
    private static final int NOWHERE = -1;

    private static final int MOST_SQUARES = 20;
    private static final int DIRECTIONS = 4;
    /** A square and a direction together; the tables of ways have one element for each. */
    private static final int PORTS = MOST_SQUARES * DIRECTIONS;
    /** No row has more than 5 squares, so no run has more than 4 steps. */
    private static final int LONGEST_RUN = 4;

    private static final int NOTHING = 0, HOUSE = 1, ELBOW = 2;

    private static final int MOST_BYTES = 200;
    private static final int MOST_STEPS = 60;
    private static final int MOST_FIGURES = 999999999;
    private static final int MOST_PLACES = 4;
    private static final int MOST_ERRANDS = 6;
    private static final int MOST_FITTED = 8;
    private static final int IMAGES = 2;
    private static final int KINDS = 6;

    /** What a way costs where there is none: above every cost, and low enough that a run more does not wrap it. */
    private static final int FAR = 1 << 30;

    private final Text text = new Text();
    private final Walk now = new Walk();
    private final Walk[] images = new Walk[IMAGES];
    private final boolean[] kept = new boolean[IMAGES];
    private final Errands errands = new Errands();
    private final Walker[] kinds = new Walker[KINDS];
    private final Ways ways = new Ways();
    private Town here = new Town();
    /** A text is read into this one, so that a fault leaves the town that stands as it was. */
    private Town spare = new Town();
    private long marks = 0;

    public StraightTax() {
        for (int i = 0; i < IMAGES; i++) {
            images[i] = new Walk();
        }
        kinds[0] = new Walker();
        kinds[1] = new Drover();
        kinds[2] = new Courtier();
        kinds[3] = new Dancer();
        kinds[4] = new Lawyer();
        kinds[5] = new Beggar();
    }

    // ---- the town

    public int type(long v, int n) {
        if (n < 1 || n > 8) {
            return BAD;
        }
        return text.add(v, n);
    }

    public int clear() {
        int had = text.length;
        text.length = 0;
        return had;
    }

    public int town() {
        int items = text.tell(spare);
        if (items < 0) {
            return items;
        }
        Town old = here;
        here = spare;
        spare = old;
        here.join();
        text.length = 0;
        now.leave();
        now.night = false;
        errands.many = 0;
        for (int i = 0; i < IMAGES; i++) {
            kept[i] = false;
        }
        return items;
    }

    public int square(int c) {
        return here.has(c) ? here.thingOn(c) : BAD;
    }

    public int law(int what) {
        switch (what) {
            case 0: return here.free;
            case 1: return here.rate;
            case 2: return here.form;
            case 3: return here.doubled ? 1 : 0;
            case 4: return here.haste;
            case 5: return now.night ? 1 : 0;
            default: return BAD;
        }
    }

    // ---- one who goes

    public int stand(int c) {
        if (!here.isOpen(c)) {
            return BAD;
        }
        now.leave();
        now.at = c;
        return 1;
    }

    public int step(int d) {
        if (!isDirection(d)) {
            return BAD;
        }
        int to = here.ahead(now.at, d);
        if (to == NOWHERE) {
            return STATE;
        }
        if (now.steps >= MOST_STEPS) {
            return FULL;
        }
        int run = here.runOf(now.at, now.lastDirection(), now.lastRun(), d);
        int fare = here.price(run, now.night);
        now.go(d, run, fare, to);
        return fare;
    }

    public int undo() {
        return now.steps > 0 ? now.takeBack() : STATE;
    }

    public int one(int what) {
        switch (what) {
            case 0: return now.at == NOWHERE ? NONE : now.at;
            case 1: return now.paid;
            case 2: return now.lastRun();
            case 3: return now.steps > 0 ? now.lastDirection() : NONE;
            case 4: return now.steps;
            default: return BAD;
        }
    }

    public int dusk(int is) {
        if (!isFlag(is)) {
            return BAD;
        }
        int was = now.night ? 1 : 0;
        now.night = is == 1;
        return was;
    }

    // ---- ways

    public int cost(int a, int steps) {
        if (!here.isOpen(a) || !areFigures(steps)) {
            return BAD;
        }
        ways.look(here, now.night);
        return ways.told(a, steps);
    }

    public int cheapest(int a, int b, int i) {
        if (!areEnds(a, b) || i < -2) {
            return BAD;
        }
        ways.look(here, now.night);
        ways.aim(b);
        int burden = ways.burdenFrom(a);
        if (burden >= FAR) {
            return NONE;
        }
        if (i == -2) {
            return Ways.penceOf(burden);
        }
        if (i == -1) {
            return Ways.stepsOf(burden);
        }
        return i < Ways.stepsOf(burden) ? ways.stepAlong(a, i) : NOT_SO_MANY;
    }

    public int quickest(int a, int b, int pence) {
        if (!areEnds(a, b) || pence < 0) {
            return BAD;
        }
        ways.look(here, now.night);
        // No purse may reach what stands for no way.
        int purse = Math.min(pence, FAR - 1);
        if (ways.leastPence(a, b) > purse) {
            return NONE;
        }
        for (int s = 0; s <= MOST_STEPS; s++) {
            if (ways.leastIn(s, a, b) <= purse) {
                return s;
            }
        }
        return NONE;
    }

    public int line(int a, int b, int i, int what) {
        if (!areEnds(a, b) || i < -1 || !isFlag(what)) {
            return BAD;
        }
        ways.look(here, now.night);
        // No corner comes behind the one that costs no more than the cheapest way of all.
        int floor = ways.leastPence(a, b);
        int lowest = FAR;
        int corners = 0;
        for (int s = 0; s <= MOST_STEPS && lowest > floor; s++) {
            int least = ways.leastIn(s, a, b);
            if (least < lowest) {
                if (corners == i) {
                    return what == 0 ? s : least;
                }
                lowest = least;
                corners++;
            }
        }
        return i == -1 ? corners : NOT_SO_MANY;
    }

    public int fewTurns(int a, int b) {
        if (!areEnds(a, b)) {
            return BAD;
        }
        if (a == b) {
            return 0;
        }
        int seen = 1 << a;
        for (int turns = 0; turns <= MOST_SQUARES; turns++) {
            int more = seen | here.straightFrom(seen);
            if (isIn(more, b)) {
                return turns;
            }
            if (more == seen) {
                return NONE;
            }
            seen = more;
        }
        return NONE;
    }

    public int round(int a, int places) {
        if (!here.isOpen(a) || !arePlaces(places)) {
            return BAD;
        }
        ways.look(here, now.night);
        return ways.tour(a, places);
    }

    public int errand(int a, int b) {
        if (!areEnds(a, b)) {
            return BAD;
        }
        return errands.add(a, b) ? errands.many : FULL;
    }

    public int home() {
        int had = errands.many;
        errands.many = 0;
        return had;
    }

    public int help(int what) {
        if (!isFlag(what)) {
            return BAD;
        }
        ways.look(here, now.night);
        if (!errands.haveWays(ways)) {
            return NONE;
        }
        int where = NONE;
        int least = FAR;
        for (int c = 0; c < here.squares(); c++) {
            if (here.thingOn(c) == NOTHING) {
                int all = errands.withElbow(c, ways);
                if (all < least) {
                    least = all;
                    where = c;
                }
            }
        }
        if (where == NONE) {
            return NONE;
        }
        return what == 0 ? where : least;
    }

    public int fits(int a, int b, int n, int pence) {
        if (!areEnds(a, b) || n < 0 || n > MOST_FITTED || pence < 0) {
            return BAD;
        }
        ways.look(here, now.night);
        return ways.fitting(a, b, n, pence);
    }

    // ---- kinds, images

    public int rating(int kind) {
        return kind >= 0 && kind < KINDS ? kinds[kind].rate(this) : NO;
    }

    public int keep(int image) {
        if (!isImage(image)) {
            return BAD;
        }
        images[image].become(now);
        kept[image] = true;
        return now.steps;
    }

    public int back(int image) {
        if (!isImage(image)) {
            return BAD;
        }
        if (!kept[image]) {
            return STATE;
        }
        now.become(images[image]);
        return now.steps;
    }

    public int count(int what) {
        switch (what) {
            case 0: return here.wide;
            case 1: return here.high;
            case 2: return here.countOf(HOUSE);
            case 3: return here.countOf(ELBOW);
            case 4: return errands.many;
            case 5: return text.length;
            default: return BAD;
        }
    }

    public long trace() {
        return marks;
    }

    private static boolean isDirection(int d) {
        return d >= 0 && d < DIRECTIONS;
    }

    private static boolean isFlag(int what) {
        return what == 0 || what == 1;
    }

    private static boolean isImage(int image) {
        return image >= 0 && image < IMAGES;
    }

    private static boolean isIn(int squares, int c) {
        return (squares >> c & 1) != 0;
    }

    private boolean areEnds(int a, int b) {
        return here.isOpen(a) && here.isOpen(b);
    }

    private static boolean areFigures(int steps) {
        if (steps < 0 || steps > MOST_FIGURES) {
            return false;
        }
        for (int rest = steps; rest > 0; rest /= 10) {
            int figure = rest % 10;
            if (figure < 1 || figure > DIRECTIONS) {
                return false;
            }
        }
        return true;
    }

    private boolean arePlaces(int places) {
        if (places < 0 || places >> here.squares() != 0 || Integer.bitCount(places) > MOST_PLACES) {
            return false;
        }
        for (int c = 0; c < here.squares(); c++) {
            if (isIn(places, c) && !here.isOpen(c)) {
                return false;
            }
        }
        return true;
    }

    /** The squares with what is on them, and the tax. */
    private static final class Town {
        private static final int[] RIGHT = {0, 1, 0, -1};
        private static final int[] DOWN = {-1, 0, 1, 0};

        int wide;
        int high;
        int free;
        int rate;
        int form;
        boolean doubled;
        int haste;
        private final int[] things = new int[MOST_SQUARES];
        /** Where a step leads, found once for each text, since every way asks for it many times. */
        private final int[] next = new int[PORTS];

        Town() {
            begin();
            join();
        }

        void begin() {
            wide = 4;
            high = 3;
            free = 1;
            rate = 1;
            form = 2;
            doubled = false;
            haste = 0;
            Arrays.fill(things, NOTHING);
        }

        void join() {
            Arrays.fill(next, NOWHERE);
            for (int y = 0; y < high; y++) {
                for (int x = 0; x < wide; x++) {
                    for (int d = 0; d < DIRECTIONS; d++) {
                        int to = squareAt(x + RIGHT[d], y + DOWN[d]);
                        if (isOpen(to)) {
                            next[squareAt(x, y) * DIRECTIONS + d] = to;
                        }
                    }
                }
            }
        }

        int squareAt(int x, int y) {
            return x >= 0 && x < wide && y >= 0 && y < high ? y * wide + x : NOWHERE;
        }

        int squares() {
            return wide * high;
        }

        boolean has(int c) {
            return c >= 0 && c < squares();
        }

        int thingOn(int c) {
            return isHeld(c) ? things[c] : NOTHING;
        }

        void put(int c, int thing) {
            if (isHeld(c)) {
                things[c] = thing;
            }
        }

        boolean isOpen(int c) {
            return has(c) && thingOn(c) != HOUSE;
        }

        boolean isElbow(int c) {
            return isHeld(c) && things[c] == ELBOW;
        }

        int countOf(int thing) {
            int found = 0;
            for (int c = 0; c < squares(); c++) {
                if (thingOn(c) == thing) {
                    found++;
                }
            }
            return found;
        }

        int ahead(int c, int d) {
            return isHeld(c) && isDirection(d) ? next[c * DIRECTIONS + d] : NOWHERE;
        }

        /** Whether the tables have the square; those beyond a small town are there, and empty. */
        private static boolean isHeld(int c) {
            return c >= 0 && c < MOST_SQUARES;
        }

        /** All squares to which a step in one direction leads from any of some. */
        int shifted(int squares, int d) {
            int found = 0;
            for (int c = 0; c < squares(); c++) {
                int to = isIn(squares, c) ? ahead(c, d) : NOWHERE;
                if (to != NOWHERE) {
                    found |= 1 << to;
                }
            }
            return found;
        }

        int around(int squares) {
            int found = 0;
            for (int d = 0; d < DIRECTIONS; d++) {
                found |= shifted(squares, d);
            }
            return found;
        }

        int straightFrom(int squares) {
            int found = 0;
            for (int d = 0; d < DIRECTIONS; d++) {
                int front = squares;
                for (int k = 0; k < LONGEST_RUN; k++) {
                    front = shifted(front, d);
                    found |= front;
                }
            }
            return found;
        }

        /** Which of its run a step is, from a square to which one came in the last direction (NOWHERE: none). */
        int runOf(int c, int last, int run, int d) {
            return d == last && !isElbow(c) ? run + 1 : 1;
        }

        int price(int run, boolean night) {
            int over = run - free;
            if (over <= 0) {
                return haste;
            }
            int tax = rate;
            if (form == 1) {
                tax = rate * over;
            } else if (form == 2) {
                tax = rate * over * over;
            }
            return night && doubled ? haste + 2 * tax : haste + tax;
        }
    }

    /** The bytes that tell a town, and their reading, token by token. */
    private static final class Text {
        private static final String WORD_TOWN = "town", WORD_HOUSE = "house", WORD_ELBOW = "elbow";
        private static final String WORD_TAX = "tax", WORD_DOUBLE = "double", WORD_HASTE = "haste";
        private static final int WRONG = 0, END = 1, STOP = 2, NUMBER = 3;
        private static final int TOWN = 4, TO_HOUSE = 5, TO_ELBOW = 6, TAX = 7, DOUBLE = 8, HASTE = 9;

        int length = 0;
        private final byte[] bytes = new byte[MOST_BYTES];
        private int at;
        private int place;
        private int token;
        private int value;
        private boolean toldTax;
        private boolean toldDouble;
        private boolean toldHaste;

        int add(long v, int n) {
            if (length + n > MOST_BYTES) {
                return FULL;
            }
            for (int i = n - 1; i >= 0; i--) {
                bytes[length] = (byte) (v >> (8 * i));
                length++;
            }
            return length;
        }

        int tell(Town town) {
            town.begin();
            at = 0;
            toldTax = false;
            toldDouble = false;
            toldHaste = false;
            advance();
            int items = 0;
            while (token != END && items < MOST_BYTES) {
                boolean good = false;
                // Where one of these is false, the token that was read last is the fault.
                switch (token) {
                    case TOWN: good = items == 0 && isSize(town); break;
                    case TO_HOUSE: good = isThing(town, HOUSE); break;
                    case TO_ELBOW: good = isThing(town, ELBOW); break;
                    case TAX: good = isTax(town); break;
                    case DOUBLE: good = isDouble(town); break;
                    case HASTE: good = isHaste(town); break;
                    default: break;
                }
                if (!good || !isStop()) {
                    return FIRST_FAULT - place;
                }
                items++;
                advance();
            }
            return items;
        }

        private boolean isSize(Town town) {
            if (!isNumber(2, 5)) {
                return false;
            }
            town.wide = value;
            if (!isNumber(1, 4)) {
                return false;
            }
            town.high = value;
            return true;
        }

        private boolean isThing(Town town, int thing) {
            if (!isNumber(0, town.wide - 1)) {
                return false;
            }
            int x = value;
            if (!isNumber(0, town.high - 1)) {
                return false;
            }
            int c = town.squareAt(x, value);
            if (town.thingOn(c) != NOTHING) {
                return false;
            }
            town.put(c, thing);
            return true;
        }

        private boolean isTax(Town town) {
            if (toldTax || !isNumber(0, 4)) {
                return false;
            }
            toldTax = true;
            town.free = value;
            if (!isNumber(1, 9)) {
                return false;
            }
            town.rate = value;
            if (!isNumber(0, 2)) {
                return false;
            }
            town.form = value;
            return true;
        }

        private boolean isDouble(Town town) {
            if (toldDouble) {
                return false;
            }
            toldDouble = true;
            town.doubled = true;
            return true;
        }

        private boolean isHaste(Town town) {
            if (toldHaste || !isNumber(0, 9)) {
                return false;
            }
            toldHaste = true;
            town.haste = value;
            return true;
        }

        private boolean isNumber(int low, int high) {
            advance();
            return token == NUMBER && value >= low && value <= high;
        }

        private boolean isStop() {
            advance();
            return token == STOP;
        }

        private void advance() {
            while (at < length && bytes[at] == ' ') {
                at++;
            }
            place = at;
            if (at >= length) {
                token = END;
            } else if (bytes[at] == ';') {
                token = STOP;
                at++;
            } else if (isLetter(bytes[at])) {
                readWord();
            } else if (isFigure(bytes[at])) {
                readNumber();
            } else {
                token = WRONG;
            }
        }

        private void readWord() {
            while (at < length && isLetter(bytes[at])) {
                at++;
            }
            if (isWord(WORD_TOWN)) {
                token = TOWN;
            } else if (isWord(WORD_HOUSE)) {
                token = TO_HOUSE;
            } else if (isWord(WORD_ELBOW)) {
                token = TO_ELBOW;
            } else if (isWord(WORD_TAX)) {
                token = TAX;
            } else if (isWord(WORD_DOUBLE)) {
                token = DOUBLE;
            } else if (isWord(WORD_HASTE)) {
                token = HASTE;
            } else {
                token = WRONG;
            }
        }

        private boolean isWord(String word) {
            if (at - place != word.length()) {
                return false;
            }
            for (int i = 0; i < word.length(); i++) {
                if (bytes[place + i] != word.charAt(i)) {
                    return false;
                }
            }
            return true;
        }

        private void readNumber() {
            value = 0;
            while (at < length && isFigure(bytes[at])) {
                // Held at 100, which is too much already: 200 figures would wrap.
                value = Math.min(value * 10 + bytes[at] - '0', 100);
                at++;
            }
            boolean zeroAhead = bytes[place] == '0' && at - place > 1;
            token = zeroAhead || value > 99 ? WRONG : NUMBER;
        }

        private static boolean isLetter(byte b) {
            return b >= 'a' && b <= 'z';
        }

        private static boolean isFigure(byte b) {
            return b >= '0' && b <= '9';
        }
    }

    /** Where one stands, how it came there, and whether it is night: all that an image keeps. */
    private static final class Walk {
        int at = NOWHERE;
        int paid = 0;
        int steps = 0;
        boolean night = false;
        private final int[] froms = new int[MOST_STEPS];
        private final int[] directions = new int[MOST_STEPS];
        private final int[] runs = new int[MOST_STEPS];
        private final int[] fares = new int[MOST_STEPS];

        void leave() {
            at = NOWHERE;
            paid = 0;
            steps = 0;
        }

        int lastDirection() {
            return steps > 0 && steps <= MOST_STEPS ? directions[steps - 1] : NOWHERE;
        }

        int lastRun() {
            return steps > 0 && steps <= MOST_STEPS ? runs[steps - 1] : 0;
        }

        void go(int d, int run, int fare, int to) {
            if (steps >= 0 && steps < MOST_STEPS) {
                froms[steps] = at;
                directions[steps] = d;
                runs[steps] = run;
                fares[steps] = fare;
                steps++;
                paid += fare;
                at = to;
            }
        }

        int takeBack() {
            if (steps <= 0 || steps > MOST_STEPS) {
                return 0;
            }
            steps--;
            at = froms[steps];
            paid -= fares[steps];
            return fares[steps];
        }

        void become(Walk other) {
            at = other.at;
            paid = other.paid;
            steps = other.steps;
            night = other.night;
            System.arraycopy(other.froms, 0, froms, 0, MOST_STEPS);
            System.arraycopy(other.directions, 0, directions, 0, MOST_STEPS);
            System.arraycopy(other.runs, 0, runs, 0, MOST_STEPS);
            System.arraycopy(other.fares, 0, fares, 0, MOST_STEPS);
        }
    }

    /** What is asked of ways; a way is taken as a row of runs, each from where it turns or from an elbow. */
    private static final class Ways {
        /** A burden is pence times this and steps: pence weigh first, and no best way has so many steps. */
        private static final int PENNY = 1024;
        /** A run's first step is at most LONGEST_RUN layers back. */
        private static final int LAYERS = LONGEST_RUN + 1;
        private static final int STOPS = MOST_PLACES + 1;

        /** One of its own at first, so that it is never null; each call looks at the town that stands. */
        private Town town = new Town();
        private boolean night = false;
        private int goal = 0;
        /** What the first steps of a run cost together, in pence and as a burden. */
        private final int[] sums = new int[LONGEST_RUN + 1];
        private final int[] weights = new int[LONGEST_RUN + 1];
        /** The least burden to the goal by a way that begins a run from a square in a direction. */
        private final int[] outward = new int[PORTS];
        /** The least burden to the goal from a square to which one came in a direction, by a new run. */
        private final int[] onward = new int[PORTS];
        /** The least pence by just so many steps to a square, where the last is in a direction. */
        private final int[] inward = new int[LAYERS * PORTS];
        /** The squares from which the goal is just so many steps away. */
        private final int[] near = new int[MOST_FITTED + 1];
        private final int[] stops = new int[STOPS];
        private final int[] legs = new int[STOPS * STOPS];

        void look(Town where, boolean isNight) {
            town = where;
            night = isNight;
            for (int r = 1; r <= LONGEST_RUN; r++) {
                sums[r] = sums[r - 1] + town.price(r, night);
                weights[r] = sums[r] * PENNY + r;
            }
        }

        static int penceOf(int burden) {
            return burden / PENNY;
        }

        static int stepsOf(int burden) {
            return burden % PENNY;
        }

        int told(int a, int steps) {
            int power = 1;
            while (power <= steps / 10 && power <= MOST_FIGURES / 10) {
                power *= 10;
            }
            int c = a;
            int last = NOWHERE;
            int run = 0;
            int pence = 0;
            int rest = steps;
            for (int i = 0; rest > 0 && power > 0; i++) {
                int d = rest / power - 1;
                int to = town.ahead(c, d);
                if (to == NOWHERE) {
                    return FIRST_FAULT - i;
                }
                run = town.runOf(c, last, run, d);
                pence += town.price(run, night);
                last = d;
                c = to;
                rest %= power;
                power /= 10;
            }
            return pence;
        }

        /** Finds the burdens of all ways to a goal; a best way begins no run twice, so the sweeps end. */
        void aim(int b) {
            goal = b;
            Arrays.fill(outward, FAR);
            Arrays.fill(onward, FAR);
            for (int d = 0; d < DIRECTIONS; d++) {
                onward[goal * DIRECTIONS + d] = 0;
            }
            boolean less = true;
            for (int sweep = 0; less && sweep <= PORTS; sweep++) {
                less = false;
                for (int i = 0; i < town.squares(); i++) {
                    // To and fro, since what is found spreads along a sweep.
                    int c = sweep % 2 == 0 ? i : town.squares() - 1 - i;
                    if (makesLess(c)) {
                        less = true;
                    }
                }
            }
        }

        private boolean makesLess(int c) {
            if (c == goal || !town.isOpen(c)) {
                return false;
            }
            boolean less = false;
            for (int d = 0; d < DIRECTIONS; d++) {
                int burden = straightOn(c, d, 0);
                if (burden < outward[c * DIRECTIONS + d]) {
                    outward[c * DIRECTIONS + d] = burden;
                    less = true;
                }
            }
            for (int last = 0; less && last < DIRECTIONS; last++) {
                onward[c * DIRECTIONS + last] = turning(c, town.isElbow(c) ? NOWHERE : last);
            }
            return less;
        }

        /** The least burden from a square by going on in a direction, behind so many steps of the run. */
        private int straightOn(int from, int d, int done) {
            int least = FAR;
            int c = from;
            for (int r = done + 1; r <= LONGEST_RUN; r++) {
                c = town.ahead(c, d);
                if (c == NOWHERE) {
                    break;
                }
                least = Math.min(least, weights[r] - weights[done] + onward[c * DIRECTIONS + d]);
                if (town.isElbow(c)) {
                    break;
                }
            }
            return least;
        }

        /** The least burden from a square by a new run in another direction than one (NOWHERE: in any). */
        private int turning(int c, int but) {
            int least = FAR;
            for (int d = 0; d < DIRECTIONS; d++) {
                if (d != but) {
                    least = Math.min(least, outward[c * DIRECTIONS + d]);
                }
            }
            return least;
        }

        int burdenFrom(int a) {
            return a == goal ? 0 : turning(a, NOWHERE);
        }

        int penceFrom(int a) {
            int burden = burdenFrom(a);
            return burden < FAR ? penceOf(burden) : FAR;
        }

        int leastPence(int a, int b) {
            aim(b);
            return penceFrom(a);
        }

        /** The i-th step of the first of the best ways to the goal, which has more than i. */
        int stepAlong(int a, int i) {
            int c = a;
            int last = NOWHERE;
            int run = 0;
            int rest = burdenFrom(a);
            for (int s = 0; s <= i && s < PENNY; s++) {
                int d = firstOfBest(c, last, run, rest);
                run = town.runOf(c, last, run, d);
                rest -= town.price(run, night) * PENNY + 1;
                last = d;
                c = town.ahead(c, d);
            }
            return last;
        }

        private int firstOfBest(int c, int last, int run, int rest) {
            for (int d = 0; d < DIRECTIONS; d++) {
                if (straightOn(c, d, town.runOf(c, last, run, d) - 1) == rest) {
                    return d;
                }
            }
            return NONE;
        }

        /** The least pence by a way of just s steps; to be asked for s = 0, 1, 2 and so on in turn. */
        int leastIn(int s, int a, int b) {
            int row = s % LAYERS * PORTS;
            if (s == 0) {
                Arrays.fill(inward, FAR);
                // As if one came there from everywhere: then any direction begins a run.
                for (int d = 0; d < DIRECTIONS; d++) {
                    inward[a * DIRECTIONS + d] = 0;
                }
            } else {
                for (int port = 0; port < town.squares() * DIRECTIONS; port++) {
                    inward[row + port] = comingIn(s, port / DIRECTIONS, port % DIRECTIONS);
                }
            }
            return turned(s, b, NOWHERE);
        }

        private int comingIn(int s, int to, int d) {
            int least = FAR;
            int c = to;
            for (int r = 1; r <= LONGEST_RUN && r <= s; r++) {
                c = town.ahead(c, (d + 2) % DIRECTIONS);
                if (c == NOWHERE) {
                    break;
                }
                least = Math.min(least, turned(s - r, c, d) + sums[r]);
                if (town.isElbow(c)) {
                    break;
                }
            }
            return least;
        }

        /** The least pence by just s steps to a square from which a direction would begin a run. */
        private int turned(int s, int c, int d) {
            int row = s % LAYERS * PORTS + c * DIRECTIONS;
            int least = FAR;
            for (int last = 0; last < DIRECTIONS; last++) {
                if (last != d || town.isElbow(c)) {
                    least = Math.min(least, inward[row + last]);
                }
            }
            return least;
        }

        int tour(int a, int places) {
            int many = 0;
            stops[0] = a;
            for (int c = 0; c < town.squares() && many < MOST_PLACES; c++) {
                if (isIn(places, c)) {
                    many++;
                    stops[many] = c;
                }
            }
            for (int to = 0; to <= many; to++) {
                aim(stops[to]);
                for (int from = 0; from <= many; from++) {
                    int pence = penceFrom(stops[from]);
                    if (pence >= FAR) {
                        return NONE;
                    }
                    legs[from * STOPS + to] = pence;
                }
            }
            return tourOn(0, (1 << many) - 1);
        }

        /** The least pence from a stop by all that are left, and back; each level has one stop less. */
        private int tourOn(int from, int left) {
            if (left == 0) {
                return legs[from * STOPS];
            }
            int least = FAR;
            for (int to = 1; to < STOPS; to++) {
                int bit = 1 << (to - 1);
                if ((left & bit) != 0) {
                    least = Math.min(least, legs[from * STOPS + to] + tourOn(to, left - bit));
                }
            }
            return least;
        }

        int fitting(int a, int b, int n, int pence) {
            near[0] = 1 << b;
            for (int k = 1; k <= n && k <= MOST_FITTED; k++) {
                near[k] = town.around(near[k - 1]);
            }
            return fittingOn(a, NOWHERE, 0, n, pence);
        }

        /** How many ways of just so many steps that are left spend the pence; each level has one step less. */
        private int fittingOn(int c, int last, int run, int left, int pence) {
            if (left < 0 || left > MOST_FITTED || pence < 0 || !isIn(near[left], c)) {
                return 0;
            }
            if (left == 0) {
                return pence == 0 ? 1 : 0;
            }
            int found = 0;
            for (int d = 0; d < DIRECTIONS; d++) {
                int to = town.ahead(c, d);
                if (to != NOWHERE) {
                    int r = town.runOf(c, last, run, d);
                    found += fittingOn(to, d, r, left - 1, pence - town.price(r, night));
                }
            }
            return found;
        }
    }

    /** The errands, and what they would cost with an elbow more. */
    private static final class Errands {
        int many = 0;
        private final int[] from = new int[MOST_ERRANDS];
        private final int[] to = new int[MOST_ERRANDS];
        private final int[] direct = new int[MOST_ERRANDS];
        /** What the rest of an errand costs from a square on which a run begins. */
        private final int[] rests = new int[MOST_ERRANDS * MOST_SQUARES];

        boolean add(int a, int b) {
            if (many < 0 || many >= MOST_ERRANDS) {
                return false;
            }
            from[many] = a;
            to[many] = b;
            many++;
            return true;
        }

        /** Finds what each costs as the town is; false: one has no way. */
        boolean haveWays(Ways ways) {
            for (int e = 0; e < many && e < MOST_ERRANDS; e++) {
                ways.aim(to[e]);
                direct[e] = ways.penceFrom(from[e]);
                if (direct[e] >= FAR) {
                    return false;
                }
                for (int c = 0; c < MOST_SQUARES; c++) {
                    rests[e * MOST_SQUARES + c] = ways.penceFrom(c);
                }
            }
            return true;
        }

        /**
         * What all cost with an elbow on a square. A way over it is a way to it and one that begins there,
         * both in the town as it is; so one search for each square is enough, and no elbow needs to be put.
         */
        int withElbow(int c, Ways ways) {
            ways.aim(c);
            int all = 0;
            for (int e = 0; e < many && e < MOST_ERRANDS; e++) {
                int there = ways.penceFrom(from[e]);
                int over = there < FAR ? there + rests[e * MOST_SQUARES + c] : FAR;
                all += Math.min(direct[e], over);
            }
            return all;
        }
    }

    private static class Walker {
        int rate(StraightTax tax) {
            tax.marks += 1;
            return tax.now.paid;
        }
    }

    private static class Drover extends Walker {
        int rate(StraightTax tax) {
            tax.marks += 10;
            return super.rate(tax) + tax.now.steps;
        }
    }

    private static class Courtier extends Walker {
        int rate(StraightTax tax) {
            tax.marks += 100;
            return super.rate(tax) - tax.now.lastRun();
        }
    }

    private static final class Beggar extends Walker {
        int rate(StraightTax tax) {
            tax.marks += 100000;
            return super.rate(tax) + tax.errands.many;
        }
    }

    private static final class Dancer extends Drover {
        int rate(StraightTax tax) {
            tax.marks += 1000;
            return 2 * super.rate(tax);
        }
    }

    private static final class Lawyer extends Courtier {
        int rate(StraightTax tax) {
            tax.marks += 10000;
            return super.rate(tax) + Math.max(tax.now.at, 0);
        }
    }
}
