/** Many constants made of one number by shifts and additions; the document is ../shared/DOC.md. */
public final class ShiftAdds {
    public static final int BAD = -1, STATE = -2, FULL = -3, NONE = -9;

    private static final int MOST = 1023;
    private static final int ODD_NUMBERS = 512;
    private static final int MOST_ADDERS = 12;
    private static final int MOST_SHIFT = 9;
    private static final int FORMS = 4;
    private static final int MOST_WANTED = 6;
    private static final int FIRST_LIMIT = 6;
    private static final int MOST_LIMIT = 9;
    private static final int MOST_LETTERS = 80;
    private static final int MOST_UNDONE = 10;
    private static final int MOST_SEEN = 6;
    private static final int MOST_DIVISOR = 9;
    private static final int MOST_IMAGES = 2;
    private static final int MOST_DIGITS = 12;
    private static final int MOST_FACTOR = 99999;
    private static final int MOST_LEAST = 255;
    private static final int FAULT_BASE = -10;

    private final Graph now = new Graph();
    private final Graph told = new Graph();
    private final Text text = new Text();
    private final History history = new History();
    private final Images images = new Images();
    private final Seen seen = new Seen();
    private final Near nearNow = new Near();
    private final Plan planNow = new Plan();
    private final Fewest fewest = new Fewest();
    private boolean nearIsOld = true;
    private boolean planIsOld = true;

    public ShiftAdds() {
    }

    // ---- what is there

    public int type(int letter) {
        if (letter < 0 || letter > 255) {
            return BAD;
        }
        return text.append(letter);
    }

    public int clear() {
        return text.empty();
    }

    public int graph() {
        int items = text.read(told);
        if (items < 0) {
            return items;
        }
        now.copy(told);
        text.empty();
        history.lose();
        images.lose();
        seen.lose();
        changed();
        return items;
    }

    public int odd(int k, int what) {
        if (!now.isThere(k) || what < 0 || what >= Graph.FACTS) {
            return BAD;
        }
        return now.odds[what][k];
    }

    public int wanted(int k, int what) {
        if (k < 0 || k >= now.wishes || what < 0 || what > 1) {
            return BAD;
        }
        int constant = now.constants[k];
        if (what == 0) {
            return constant;
        }
        return now.isMet(constant) ? 1 : 0;
    }

    public int adds(int p, int s, int q, int form) {
        if (!now.isThere(p) || !now.isThere(q) || s < 0 || s > MOST_SHIFT || form < 0 || form >= FORMS) {
            return BAD;
        }
        if (!now.mayBe(p, s, q, form)) {
            return STATE;
        }
        if (now.adders >= MOST_ADDERS) {
            return FULL;
        }
        history.remember(now);
        now.append(p, s, q, form);
        changed();
        return now.value(now.adders);
    }

    public int takes() {
        if (now.adders == 0) {
            return STATE;
        }
        history.remember(now);
        int value = now.value(now.adders);
        now.adders--;
        changed();
        return value;
    }

    public int wishes(int constant) {
        if (constant < 1 || constant > MOST) {
            return BAD;
        }
        int place = now.placeOf(constant);
        if (place < 0 && now.wishes >= MOST_WANTED) {
            return FULL;
        }
        history.remember(now);
        if (place < 0) {
            now.wish(constant);
        } else {
            now.dropWish(place);
        }
        changed();
        return now.wishes;
    }

    public int limits(int limit) {
        if (limit < 1 || limit > MOST_LIMIT) {
            return BAD;
        }
        if (now.greatestDepth() > limit) {
            return STATE;
        }
        history.remember(now);
        int before = now.limit;
        now.limit = limit;
        changed();
        return before;
    }

    public int undo() {
        if (history.known == 0) {
            return STATE;
        }
        history.restore(now);
        changed();
        return history.known;
    }

    // ---- digits, what is near

    public int digits(int v) {
        if (v < 1 || v > MOST) {
            return BAD;
        }
        int notZero = 0;
        for (int k = 0; k < MOST_DIGITS; k++) {
            if (signedDigit(v, k) != 0) {
                notZero++;
            }
        }
        return notZero;
    }

    public int digit(int v, int k) {
        if (v < 1 || v > MOST || k < 0 || k >= MOST_DIGITS) {
            return BAD;
        }
        return signedDigit(v, k) + 1;
    }

    public int near(int v, int what) {
        if (v < 0 || what < 0 || what > 1) {
            return BAD;
        }
        Near near = freshNear();
        return what == 0 ? near.howManyAbove(v) : near.leastAbove(v);
    }

    public int by(int v, int what) {
        if (!isOddNumber(v) || what < 0 || what >= 4) {
            return BAD;
        }
        int way = freshNear().way(v);
        if (way < 0) {
            return NONE;
        }
        switch (what) {
            case 0:
                return Way.p(way);
            case 1:
                return Way.q(way);
            case 2:
                return Way.shift(way);
            default:
                return Way.form(way);
        }
    }

    public int two(int v) {
        if (!isOddNumber(v)) {
            return BAD;
        }
        return freshNear().bridge(now, v);
    }

    public int least(int v) {
        if (v < 1 || v > MOST_LEAST) {
            return BAD;
        }
        return fewest.adders(oddPart(v));
    }

    public int plan(int k) {
        if (k < -2) {
            return BAD;
        }
        if (planIsOld) {
            planNow.make(now, freshNear());
            planIsOld = false;
        }
        if (k == -2) {
            return planNow.made();
        }
        if (k == -1) {
            return planNow.graph.notMet();
        }
        return planNow.value(k);
    }

    public long product(int k, int x) {
        if (!now.isThere(k) || x < -MOST_FACTOR || x > MOST_FACTOR) {
            return 0L;
        }
        // Each adder makes its VALUE times x of what the two below it make, so no adder need be gone through.
        return (long) now.value(k) * x;
    }

    // ---- which adder

    public int sees(int m, int r) {
        if (m < 2 || m > MOST_DIVISOR || r < 0 || r >= m) {
            return BAD;
        }
        return seen.append(m, r);
    }

    public int forget() {
        return seen.lose();
    }

    public int unseen(int what) {
        if (what < 0 || what > 1) {
            return BAD;
        }
        Near near = freshNear();
        return what == 0 ? seen.howMany(near) : seen.lowest(near);
    }

    public int next() {
        return seen.ask(freshNear());
    }

    // ---- images

    public int keep(int image) {
        if (image < 0 || image >= MOST_IMAGES) {
            return BAD;
        }
        images.put(image, now);
        return now.adders;
    }

    public int back(int image) {
        if (image < 0 || image >= MOST_IMAGES) {
            return BAD;
        }
        if (!images.kept[image]) {
            return STATE;
        }
        now.copy(images.graphs[image]);
        history.lose();
        changed();
        return now.adders;
    }

    public int count(int what) {
        switch (what) {
            case 0:
                return now.adders;
            case 1:
                return now.wishes;
            case 2:
                return now.limit;
            case 3:
                return now.notMet();
            case 4:
                return now.greatestDepth();
            case 5:
                return seen.size;
            case 6:
                return text.length;
            case 7:
                return history.known;
            default:
                return BAD;
        }
    }

    // ---- inside

    private void changed() {
        nearIsOld = true;
        planIsOld = true;
    }

    private Near freshNear() {
        if (nearIsOld) {
            nearNow.build(now);
            nearIsOld = false;
        }
        return nearNow;
    }

    private static boolean isOddNumber(int v) {
        return v >= 1 && v <= MOST && (v & 1) == 1;
    }

    /** How often a number of at most 2046 can be halved; 0 counts as odd here, so that the loop ends. */
    private static int halvings(int number) {
        int halved = 0;
        while (halved < 11 && number != 0 && (number >> halved & 1) == 0) {
            halved++;
        }
        return halved;
    }

    private static int oddPart(int number) {
        return number >> halvings(number);
    }

    /** What comes of an adder of two values, before it is halved. */
    private static int comes(int p, int s, int q, int form) {
        switch (form) {
            case 0:
                return (p << s) + q;
            case 1:
                return Math.abs((p << s) - q);
            case 2:
                return p + (q << s);
            default:
                return Math.abs(p - (q << s));
        }
    }

    /**
     * v is (3v - v) / 2: the bits of 3v less the bits of v, one place down, are the digits
     * of which no two side by side are both not 0.
     */
    private static int signedDigit(int v, int k) {
        return (3 * v >> k + 1 & 1) - (v >> k + 1 & 1);
    }

    /** An adder as one number, so that the smaller of two is the first by p, q, s, form. */
    private static final class Way {
        private Way() {
        }

        static int of(int p, int q, int s, int form) {
            return p << 10 | q << 6 | s << 2 | form;
        }

        static int p(int way) {
            return way >> 10;
        }

        static int q(int way) {
            return way >> 6 & 15;
        }

        static int shift(int way) {
            return way >> 2 & 15;
        }

        static int form(int way) {
            return way & 3;
        }
    }

    /** ODDS, WANTED and THE LIMIT: what an image keeps and undo() brings back. */
    private static final class Graph {
        static final int VALUE = 0, DEPTH = 1, P = 2, Q = 3, SHIFT = 4, FORM = 5, HALVED = 6, FACTS = 7;

        final int[][] odds = new int[FACTS][MOST_ADDERS + 1];
        final int[] constants = new int[MOST_WANTED];
        int adders;
        int wishes;
        int limit = FIRST_LIMIT;

        Graph() {
            odds[VALUE][0] = 1;
            odds[P][0] = NONE;
            odds[Q][0] = NONE;
            odds[SHIFT][0] = NONE;
            odds[FORM][0] = NONE;
        }

        void empty() {
            adders = 0;
            wishes = 0;
            limit = FIRST_LIMIT;
        }

        void copy(Graph other) {
            for (int what = 0; what < FACTS; what++) {
                System.arraycopy(other.odds[what], 0, odds[what], 0, MOST_ADDERS + 1);
            }
            System.arraycopy(other.constants, 0, constants, 0, MOST_WANTED);
            adders = other.adders;
            wishes = other.wishes;
            limit = other.limit;
        }

        boolean isThere(int k) {
            return k >= 0 && k <= adders;
        }

        int value(int k) {
            return k >= 0 && k <= adders ? odds[VALUE][k] : BAD;
        }

        int depth(int k) {
            return k >= 0 && k <= adders ? odds[DEPTH][k] : BAD;
        }

        int depthOver(int p, int q) {
            return Math.max(depth(p), depth(q)) + 1;
        }

        boolean mayBe(int p, int s, int q, int form) {
            int comes = comes(value(p), s, value(q), form);
            return comes != 0 && comes <= MOST && depthOver(p, q) <= limit;
        }

        /** Adds an adder that may be; more than twelve are not taken. */
        void append(int p, int s, int q, int form) {
            if (adders >= MOST_ADDERS) {
                return;
            }
            int comes = comes(value(p), s, value(q), form);
            int depth = depthOver(p, q);
            adders++;
            odds[VALUE][adders] = oddPart(comes);
            odds[DEPTH][adders] = depth;
            odds[P][adders] = p;
            odds[Q][adders] = q;
            odds[SHIFT][adders] = s;
            odds[FORM][adders] = form;
            odds[HALVED][adders] = halvings(comes);
        }

        void append(int way) {
            append(Way.p(way), Way.shift(way), Way.q(way), Way.form(way));
        }

        boolean hasValue(int v) {
            for (int k = 0; k <= adders; k++) {
                if (odds[VALUE][k] == v) {
                    return true;
                }
            }
            return false;
        }

        int greatestDepth() {
            int greatest = 0;
            for (int k = 0; k <= adders; k++) {
                greatest = Math.max(greatest, odds[DEPTH][k]);
            }
            return greatest;
        }

        boolean isMet(int constant) {
            return hasValue(oddPart(constant));
        }

        int notMet() {
            int not = 0;
            for (int k = 0; k < wishes; k++) {
                if (!isMet(constants[k])) {
                    not++;
                }
            }
            return not;
        }

        /** Where a constant stands among WANTED, or -1. */
        int placeOf(int constant) {
            for (int k = 0; k < wishes; k++) {
                if (constants[k] == constant) {
                    return k;
                }
            }
            return -1;
        }

        void wish(int constant) {
            if (wishes < MOST_WANTED) {
                constants[wishes] = constant;
                wishes++;
            }
        }

        void dropWish(int place) {
            wishes--;
            for (int k = place; k < wishes; k++) {
                constants[k] = constants[k + 1];
            }
        }
    }

    /** THE TEXT, and the reading of it token by token. */
    private static final class Text {
        private static final int END = -1, NUMBER = -2, WRONG = -3;
        private static final int MOST_NUMBER = 9999;

        private final int[] letters = new int[MOST_LETTERS];
        int length;

        // The token at hand: its first letter's place, the place behind it, what it is.
        private int start;
        private int behind;
        private int kind;
        private int number;

        int append(int letter) {
            if (length >= MOST_LETTERS) {
                return FULL;
            }
            letters[length] = letter;
            length++;
            return length;
        }

        int empty() {
            int had = length;
            length = 0;
            return had;
        }

        /** How many items the text tells, which are in the graph then; or -10 less FAULT. */
        int read(Graph graph) {
            graph.empty();
            behind = 0;
            step();
            int items = 0;
            while (items < MOST_LETTERS && kind != END) {
                if (!readItem(graph, items)) {
                    return FAULT_BASE - start;
                }
                items++;
                step();
            }
            return items;
        }

        private boolean readItem(Graph graph, int itemsAhead) {
            switch (kind) {
                case 'l':
                    return itemsAhead == 0 && readLimit(graph);
                case 'w':
                    return graph.wishes < MOST_WANTED && readWish(graph);
                case 'a':
                    return graph.adders < MOST_ADDERS && readAdder(graph);
                default:
                    return false;
            }
        }

        private boolean readLimit(Graph graph) {
            if (!stepToNumber(1, MOST_LIMIT)) {
                return false;
            }
            graph.limit = number;
            return stepToSemicolon();
        }

        private boolean readWish(Graph graph) {
            if (!stepToNumber(1, MOST) || graph.placeOf(number) >= 0) {
                return false;
            }
            graph.wish(number);
            return stepToSemicolon();
        }

        private boolean readAdder(Graph graph) {
            if (!stepToNumber(0, graph.adders)) {
                return false;
            }
            int p = number;
            if (!stepToNumber(0, MOST_SHIFT)) {
                return false;
            }
            int s = number;
            if (!stepToNumber(0, graph.adders)) {
                return false;
            }
            int q = number;
            if (!stepToNumber(0, FORMS - 1) || !graph.mayBe(p, s, q, number)) {
                return false;
            }
            graph.append(p, s, q, number);
            return stepToSemicolon();
        }

        private boolean stepToNumber(int least, int most) {
            step();
            return kind == NUMBER && number >= least && number <= most;
        }

        private boolean stepToSemicolon() {
            step();
            return kind == ';';
        }

        /** Goes to the next token; behind the last one, start is the text's length. */
        private void step() {
            start = behind;
            while (start < length && letters[start] == ' ') {
                start++;
            }
            behind = start;
            number = 0;
            while (behind < length && isDigit(letters[behind])) {
                // Eighty digits would not fit an int: all that is too great counts as the first that is.
                number = Math.min(number * 10 + letters[behind] - '0', MOST_NUMBER + 1);
                behind++;
            }
            if (start >= length) {
                kind = END;
            } else if (behind > start) {
                boolean zeroAhead = letters[start] == '0' && behind - start > 1;
                kind = zeroAhead || number > MOST_NUMBER ? WRONG : NUMBER;
            } else {
                kind = letters[start];
                behind++;
            }
        }

        private static boolean isDigit(int letter) {
            return letter >= '0' && letter <= '9';
        }
    }

    /** What was there ahead of the latest changes, in a ring, so that the oldest is lost first. */
    private static final class History {
        private final Graph[] before = new Graph[MOST_UNDONE];
        private int latest = MOST_UNDONE - 1;
        int known;

        History() {
            for (int i = 0; i < MOST_UNDONE; i++) {
                before[i] = new Graph();
            }
        }

        void remember(Graph graph) {
            latest = latest + 1 < MOST_UNDONE ? latest + 1 : 0;
            before[latest].copy(graph);
            known = Math.min(known + 1, MOST_UNDONE);
        }

        void restore(Graph graph) {
            if (known > 0) {
                graph.copy(before[latest]);
                latest = latest > 0 ? latest - 1 : MOST_UNDONE - 1;
                known--;
            }
        }

        void lose() {
            known = 0;
        }
    }

    private static final class Images {
        final Graph[] graphs = new Graph[MOST_IMAGES];
        final boolean[] kept = new boolean[MOST_IMAGES];

        Images() {
            for (int i = 0; i < MOST_IMAGES; i++) {
                graphs[i] = new Graph();
            }
        }

        void put(int image, Graph graph) {
            graphs[image].copy(graph);
            kept[image] = true;
        }

        void lose() {
            for (int i = 0; i < MOST_IMAGES; i++) {
                kept[i] = false;
            }
        }
    }

    /** Which odd numbers one adder makes, and by which first adder; odd number v stands at v / 2. */
    private static final class Near {
        private static final int FAR = -1, THERE = -2;
        private static final int NOT_FOUND = MOST + 1;

        private final int[] ways = new int[ODD_NUMBERS];
        private final int[] depths = new int[ODD_NUMBERS];

        void build(Graph graph) {
            for (int i = 0; i < ODD_NUMBERS; i++) {
                ways[i] = FAR;
            }
            for (int k = 0; k <= graph.adders; k++) {
                widen(graph, k);
            }
        }

        void copy(Near other) {
            System.arraycopy(other.ways, 0, ways, 0, ODD_NUMBERS);
            System.arraycopy(other.depths, 0, depths, 0, ODD_NUMBERS);
        }

        /** Number k of ODDS comes to those ahead of it. */
        void widen(Graph graph, int k) {
            int value = graph.value(k);
            if (!isOddNumber(value)) {
                return;
            }
            ways[value >> 1] = THERE;
            // What (k, other) makes, (other, k) makes too, by the other forms, and is ahead of it.
            for (int other = 0; other <= k; other++) {
                offerAll(graph, other, k);
            }
        }

        private void offerAll(Graph graph, int p, int q) {
            int depth = graph.depthOver(p, q);
            if (depth > graph.limit) {
                return;
            }
            int pValue = graph.value(p);
            int qValue = graph.value(q);
            for (int s = 0; s <= MOST_SHIFT; s++) {
                for (int form = 0; form < FORMS; form++) {
                    int comes = comes(pValue, s, qValue, form);
                    if (comes != 0 && comes <= MOST) {
                        offer(oddPart(comes), Way.of(p, q, s, form), depth);
                    }
                }
            }
        }

        private void offer(int v, int way, int depth) {
            int i = v >> 1;
            if (ways[i] == FAR || ways[i] > way) {
                ways[i] = way;
                depths[i] = depth;
            }
        }

        /** The first adder that makes v, or a number below 0: v is not NEAR. */
        int way(int v) {
            return isOddNumber(v) ? ways[v >> 1] : FAR;
        }

        boolean has(int v) {
            return isOddNumber(v) && ways[v >> 1] >= 0;
        }

        int howManyAbove(int v) {
            int many = 0;
            for (int odd = 1; odd <= MOST; odd += 2) {
                if (odd > v && has(odd)) {
                    many++;
                }
            }
            return many;
        }

        int leastAbove(int v) {
            for (int odd = 1; odd <= MOST; odd += 2) {
                if (odd > v && has(odd)) {
                    return odd;
                }
            }
            return NONE;
        }

        /**
         * TWO of v. Gone through backwards: the last adder makes v, doubled some times, of the
         * number looked for and of itself or one of ODDS, which leaves few numbers to look at.
         */
        int bridge(Graph graph, int v) {
            if (way(v) != FAR) {
                return NONE;
            }
            int lowest = NOT_FOUND;
            for (int doubled = 0; doubled <= MOST_SHIFT && v << doubled <= MOST; doubled++) {
                int comes = v << doubled;
                lowest = Math.min(lowest, bridgeAlone(comes, graph.limit));
                for (int k = 0; k <= graph.adders; k++) {
                    if (graph.depth(k) < graph.limit) {
                        lowest = Math.min(lowest, bridgeWith(comes, graph.value(k), graph.limit));
                    }
                }
            }
            return lowest == NOT_FOUND ? NONE : lowest;
        }

        private int bridgeAlone(int comes, int limit) {
            int lowest = NOT_FOUND;
            for (int s = 1; s <= MOST_SHIFT; s++) {
                int more = (1 << s) + 1;
                int less = (1 << s) - 1;
                if (comes % more == 0) {
                    lowest = Math.min(lowest, usable(comes / more, limit));
                }
                if (comes % less == 0) {
                    lowest = Math.min(lowest, usable(comes / less, limit));
                }
            }
            return lowest;
        }

        private int bridgeWith(int comes, int value, int limit) {
            int lowest = usable(oddPart(comes + value), limit);
            lowest = Math.min(lowest, usable(oddPart(Math.abs(comes - value)), limit));
            for (int s = 0; s <= MOST_SHIFT; s++) {
                int shifted = value << s;
                lowest = Math.min(lowest, usable(comes + shifted, limit));
                lowest = Math.min(lowest, usable(Math.abs(comes - shifted), limit));
            }
            return lowest;
        }

        /** The number itself, if it is NEAR and an adder may stand on it, else NOT_FOUND. */
        private int usable(int number, int limit) {
            if (!isOddNumber(number)) {
                return NOT_FOUND;
            }
            int i = number >> 1;
            return ways[i] >= 0 && depths[i] < limit ? number : NOT_FOUND;
        }
    }

    /** PLAN, made on a graph of its own. */
    private static final class Plan {
        final Graph graph = new Graph();
        private final Near near = new Near();
        private int addersAhead;

        void make(Graph now, Near nearNow) {
            graph.copy(now);
            near.copy(nearNow);
            addersAhead = now.adders;
            for (int step = addersAhead; step < MOST_ADDERS && graph.notMet() > 0; step++) {
                int way = near.way(choice());
                if (way < 0) {
                    return;
                }
                graph.append(way);
                near.widen(graph, graph.adders);
            }
        }

        int made() {
            return graph.adders - addersAhead;
        }

        int value(int k) {
            return k >= 0 && k < made() ? graph.value(addersAhead + 1 + k) : NONE;
        }

        /** The number that is made next, or NONE. */
        private int choice() {
            int lowestNear = MOST + 1;
            int lowestFar = MOST + 1;
            for (int k = 0; k < graph.wishes; k++) {
                int part = oddPart(graph.constants[k]);
                if (near.has(part)) {
                    lowestNear = Math.min(lowestNear, part);
                } else if (part < lowestFar && near.bridge(graph, part) != NONE) {
                    lowestFar = part;
                }
            }
            if (lowestNear <= MOST) {
                return lowestNear;
            }
            return lowestFar <= MOST ? near.bridge(graph, lowestFar) : NONE;
        }
    }

    /** LEAST, gone through on a graph of its own. */
    private static final class Fewest {
        private final Graph graph = new Graph();
        private final Near ofOne = new Near();
        private final Near ofTwo = new Near();

        int adders(int v) {
            graph.empty();
            // Three adders lie no deeper than 3, so that this limit is none.
            graph.limit = MOST_LIMIT;
            ofOne.build(graph);
            if (v == 1) {
                return 0;
            }
            if (ofOne.has(v)) {
                return 1;
            }
            if (ofOne.bridge(graph, v) != NONE) {
                return 2;
            }
            return isMadeByThree(v) ? 3 : NONE;
        }

        private boolean isMadeByThree(int v) {
            for (int first = 3; first <= MOST; first += 2) {
                if (ofOne.has(first)) {
                    graph.adders = 0;
                    graph.append(ofOne.way(first));
                    ofTwo.copy(ofOne);
                    ofTwo.widen(graph, 1);
                    if (ofTwo.bridge(graph, v) != NONE) {
                        return true;
                    }
                }
            }
            return false;
        }
    }

    /** SEEN: what the unknown adder's VALUE left, and which NEAR numbers that leaves. */
    private static final class Seen {
        private final int[] divisors = new int[MOST_SEEN];
        private final int[] rests = new int[MOST_SEEN];
        private final int[] tally = new int[MOST_DIVISOR];
        int size;

        int append(int m, int r) {
            if (size >= MOST_SEEN) {
                return FULL;
            }
            divisors[size] = m;
            rests[size] = r;
            size++;
            return size;
        }

        int lose() {
            int had = size;
            size = 0;
            return had;
        }

        private boolean allows(Near near, int v) {
            if (!near.has(v)) {
                return false;
            }
            for (int k = 0; k < size; k++) {
                int m = divisors[k];
                if (m < 2 || v % m != rests[k]) {
                    return false;
                }
            }
            return true;
        }

        int howMany(Near near) {
            int many = 0;
            for (int v = 1; v <= MOST; v += 2) {
                if (allows(near, v)) {
                    many++;
                }
            }
            return many;
        }

        int lowest(Near near) {
            for (int v = 1; v <= MOST; v += 2) {
                if (allows(near, v)) {
                    return v;
                }
            }
            return NONE;
        }

        int ask(Near near) {
            if (howMany(near) <= 1) {
                return NONE;
            }
            int best = NONE;
            int smallest = ODD_NUMBERS + 1;
            for (int m = 2; m <= MOST_DIVISOR; m++) {
                int greatest = greatestLeft(near, m);
                if (greatest < smallest) {
                    smallest = greatest;
                    best = m;
                }
            }
            return best;
        }

        /** Of the numbers that are left, how many leave the same by m, where most do. */
        private int greatestLeft(Near near, int m) {
            for (int r = 0; r < MOST_DIVISOR; r++) {
                tally[r] = 0;
            }
            int greatest = 0;
            for (int v = 1; v <= MOST; v += 2) {
                if (m >= 2 && m <= MOST_DIVISOR && allows(near, v)) {
                    tally[v % m]++;
                    greatest = Math.max(greatest, tally[v % m]);
                }
            }
            return greatest;
        }
    }
}
