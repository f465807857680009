/**
 * A pack of 2 to 16 cards that is laced card by card, as ../shared/DOC.md tells it.
 *
 * <p>An ORDER is one long of sixteen fields of four bits, the lowest one for place 0; each holds the
 * card that lies in that place, and fields behind the last place are 0. A MOVE has the same form: it
 * holds, for each new place, the place from which the card comes. So a move is also the order that it
 * makes out of a pack that lies as it was laid, and no call has to make an array.
 */
public final class LacedPack {
    public static final int BAD = -1, NO = -2, FULL = -3, NONE = -4;

    private static final int UNDO_LIMIT = 8;
    private static final int KEEP_LIMIT = 2;
    private static final int BY_DEALS = 5;

    private final Text text;
    private final Plan draft;
    private final Plan laid;
    private final Shelf past;
    private final Shelf kept;
    private final Sightings sightings;
    private final Finder finder;
    private final Mix mix;
    private long order;

    public LacedPack() {
        text = new Text();
        draft = new Plan();
        laid = new Plan();
        past = new Shelf(UNDO_LIMIT);
        kept = new Shelf(KEEP_LIMIT);
        sightings = new Sightings();
        finder = new Finder();
        mix = new Mix();
        laid.tellFirst();
        order = Order.inOrder(laid.cards);
    }

    // ---- packs

    public int write(int letter) {
        if (!within(letter, 32, 126)) {
            return BAD;
        }
        return text.append(letter) ? text.length : FULL;
    }

    public int wipe() {
        int length = text.length;
        text.length = 0;
        return length;
    }

    public int fault() {
        return text.firstFault(draft);
    }

    public int lay() {
        if (text.length == 0 || text.firstFault(draft) != NONE) {
            return NO;
        }
        laid.become(draft);
        order = Order.inOrder(laid.cards);
        sightings.held = 0;
        past.held = 0;
        kept.held = 0;
        return laid.cards;
    }

    public int at(int place) {
        return isPlace(place) ? Order.cardAt(order, place) : BAD;
    }

    public int where(int card) {
        return isCard(card) ? Order.placeOf(order, laid.cards, card) : BAD;
    }

    public int colour(int card) {
        return isCard(card) ? laid.colourOf(card) : BAD;
    }

    // ---- acts

    public int lace(int kind) {
        return isKind(kind) ? act(Move.lacing(kind, laid.cards)) : BAD;
    }

    public int cut(int c) {
        return within(c, 0, laid.cards - 1) ? act(Move.cutAt(c, laid.cards)) : BAD;
    }

    public int turn() {
        return act(Move.turnedOver(laid.cards));
    }

    public int deal() {
        return act(laid.deal);
    }

    public int undo() {
        if (past.held == 0) {
            return NO;
        }
        order = past.takeLast();
        return past.held;
    }

    // ---- rounds

    public int again(int kind) {
        if (kind == BY_DEALS) {
            return Order.timesTillSame(laid.deal, laid.cards);
        }
        return isKind(kind) ? Order.timesTillSame(Move.lacing(kind, laid.cards), laid.cards) : BAD;
    }

    public int round(int place, int kind) {
        if (!isPlace(place) || !isKind(kind)) {
            return BAD;
        }
        return Order.roundLength(Move.lacing(kind, laid.cards), laid.cards, place);
    }

    public int rounds(int kind) {
        return isKind(kind) ? Order.roundCount(Move.lacing(kind, laid.cards), laid.cards) : BAD;
    }

    // ---- orders

    public int bring(int card, int place, int k) {
        if (!isCard(card) || !isPlace(place) || k < -1) {
            return BAD;
        }
        int from = Order.placeOf(order, laid.cards, card);
        finder.findWaysTo(place, laid.cards);
        return k == -1 ? finder.fewestFrom(from) : finder.kindOnWay(from, k, laid.cards);
    }

    public int beside(int a, int b) {
        if (!isCard(a) || !isCard(b) || a == b) {
            return BAD;
        }
        int placeOfA = Order.placeOf(order, laid.cards, a);
        int placeOfB = Order.placeOf(order, laid.cards, b);
        return finder.fewestTillNeighbours(placeOfA, placeOfB, laid.cards);
    }

    public int orders(int n) {
        return within(n, 0, Finder.ORDERS_DEPTH) ? finder.countOrders(n, laid.cards) : BAD;
    }

    public int rising() {
        return Order.risingRows(order, laid.cards);
    }

    public int pairs() {
        int unlike = 0;
        for (int place = 0; place + 1 < laid.cards; place += 2) {
            if (laid.areUnlike(Order.cardAt(order, place), Order.cardAt(order, place + 1))) {
                unlike++;
            }
        }
        return unlike;
    }

    public int sure(int c, int part) {
        if (!within(c, 0, laid.cards) || !within(part, 0, 1)) {
            return BAD;
        }
        int good = mix.goodWays(laid, order, c);
        return Fraction.partOf(good, Fraction.choices(laid.cards, c), part);
    }

    // ---- what was seen

    public int seen(int card, int place) {
        if (!isCard(card) || !isPlace(place)) {
            return BAD;
        }
        return sightings.add(card, place) ? sightings.held : FULL;
    }

    public int forget() {
        int held = sightings.held;
        sightings.held = 0;
        return held;
    }

    public int done(int what) {
        if (what == 0) {
            return fittingKinds();
        }
        return what == 1 ? fittingCuts() : BAD;
    }

    // ---- chances, dealings

    public int likely(int card, int place, int n, int x, int part) {
        boolean areNumbers = within(n, 0, 5) && within(x, 0, 10) && within(part, 0, 1);
        if (!isCard(card) || !isPlace(place) || !areNumbers) {
            return BAD;
        }
        int from = Order.placeOf(order, laid.cards, card);
        int above = 0;
        for (int way = 0; way < 1 << n; way++) {
            if (endOfWay(from, way, n) == place) {
                above += weightOfWay(way, n, x);
            }
        }
        return Fraction.partOf(above, powerOfTen(n), part);
    }

    public int dealing(int z, int n, int what) {
        if (!within(z, 0, 9999) || !within(n, 1, 60) || !within(what, 0, 2)) {
            return BAD;
        }
        long then = order;
        for (int time = 0; time < n; time++) {
            then = Order.moved(then, drawnMove(drawOf(z, time)), laid.cards);
        }
        if (what == 0) {
            return Order.cardAt(then, 0);
        }
        return what == 1 ? Order.sameCards(order, then, laid.cards) : Order.risingRows(then, laid.cards);
    }

    // ---- kept

    public int keep() {
        if (kept.isFull()) {
            return FULL;
        }
        kept.put(order);
        return kept.held;
    }

    public int back() {
        if (kept.held == 0) {
            return NO;
        }
        order = kept.takeLast();
        past.held = 0;
        return kept.held;
    }

    public int count(int what) {
        switch (what) {
            case 0:
                return laid.cards;
            case 1:
                return laid.acts;
            case 2:
                return sightings.held;
            case 3:
                return past.held;
            case 4:
                return kept.held;
            case 5:
                return text.length;
            default:
                return BAD;
        }
    }

    private static boolean within(int number, int least, int most) {
        return number >= least && number <= most;
    }

    private boolean isPlace(int place) {
        return within(place, 0, laid.cards - 1);
    }

    private boolean isCard(int card) {
        return within(card, 0, laid.cards - 1);
    }

    private static boolean isKind(int kind) {
        return within(kind, 0, Move.KINDS - 1);
    }

    private int act(long move) {
        past.put(order);
        order = Order.moved(order, move, laid.cards);
        return Order.cardAt(order, 0);
    }

    private int fittingKinds() {
        int bits = 0;
        for (int kind = 0; kind < Move.KINDS; kind++) {
            if (sightings.fit(Move.lacing(kind, laid.cards))) {
                bits |= 1 << kind;
            }
        }
        return sightings.fit(Move.turnedOver(laid.cards)) ? bits | 1 << Move.KINDS : bits;
    }

    private int fittingCuts() {
        int bits = 0;
        for (int c = 0; c < laid.cards; c++) {
            if (sightings.fit(Move.cutAt(c, laid.cards))) {
                bits |= 1 << c;
            }
        }
        return bits;
    }

    /** A way's bits tell its lacings from the lowest bit on: 0 for OUT, 1 for IN. */
    private int endOfWay(int from, int way, int lacings) {
        int place = from;
        for (int step = 0; step < lacings; step++) {
            place = Move.goal((way >> step) & 1, laid.cards, place);
        }
        return place;
    }

    private static int weightOfWay(int way, int lacings, int outOfTen) {
        int weight = 1;
        for (int step = 0; step < lacings; step++) {
            weight *= ((way >> step) & 1) == Move.OUT ? outOfTen : 10 - outOfTen;
        }
        return weight;
    }

    private static int powerOfTen(int exponent) {
        int power = 1;
        for (int step = 0; step < exponent; step++) {
            power *= 10;
        }
        return power;
    }

    private static int drawOf(int z, int time) {
        long x = 7919L * z + 6151L * time + 1;
        return (int) (x * x % 65521 / 2);
    }

    private long drawnMove(int draw) {
        int choice = draw % 7;
        if (choice < Move.KINDS) {
            return Move.lacing(choice, laid.cards);
        }
        if (choice == 5 && laid.cards > 0) {
            return Move.cutAt(draw / 8 % laid.cards, laid.cards);
        }
        return Move.turnedOver(laid.cards);
    }

    /** THE TEXT, and how it is read item by item. */
    private static final class Text {
        private static final int LIMIT = 200;

        private final char[] letters = new char[LIMIT];
        private int length;
        private int next;

        boolean append(int letter) {
            if (length < 0 || length >= LIMIT) {
                return false;
            }
            letters[length] = (char) letter;
            length++;
            return true;
        }

        /** Reads all into the plan, which is of use only if the answer is NONE. */
        int firstFault(Plan plan) {
            plan.tellNothing();
            next = 0;
            for (int item = 0; item < LIMIT && next < length; item++) {
                int start = next;
                if (!readItem(plan)) {
                    return start;
                }
            }
            return NONE;
        }

        private boolean readItem(Plan plan) {
            int letter = nextLetter();
            if (letter == 'c') {
                int card = readNumber(',');
                int colour = readNumber(';');
                return plan.tellColour(card, colour);
            }
            int number = readNumber(';');
            switch (letter) {
                case 'n':
                    return plan.tellCards(number);
                case 'l':
                    return plan.tellLacing(number);
                case 'x':
                    return plan.tellCut(number);
                default:
                    return false;
            }
        }

        /** A number with the sign behind it, or -1, which no item takes. */
        private int readNumber(int sign) {
            int number = figureOf(nextLetter());
            if (number < 0) {
                return -1;
            }
            int letter = nextLetter();
            if (figureOf(letter) >= 0) {
                number = 10 * number + figureOf(letter);
                letter = nextLetter();
            }
            return letter == sign ? number : -1;
        }

        private int nextLetter() {
            if (next < 0 || next >= length || next >= LIMIT) {
                return 0;
            }
            int letter = letters[next];
            next++;
            return letter;
        }

        private static int figureOf(int letter) {
            return letter >= '0' && letter <= '9' ? letter - '0' : -1;
        }
    }

    /** What a text tells: how many cards, their colours (two bits a card), a deal as one move. */
    private static final class Plan {
        private static final int MOST_ACTS = 16;
        // each odd card is of colour 1
        private static final int FIRST_COLOURS = 0x44444444;

        private int cards;
        private int colours;
        private int acts;
        private long deal;
        private boolean cardsAreFixed;

        void tellNothing() {
            cardsAreFixed = false;
            begin(8);
        }

        void tellFirst() {
            begin(10);
            tellColour(3, 0);
            tellColour(4, 2);
            tellLacing(Move.OUT);
            tellCut(3);
            tellLacing(Move.IN);
        }

        void become(Plan other) {
            cards = other.cards;
            colours = other.colours;
            acts = other.acts;
            deal = other.deal;
            cardsAreFixed = other.cardsAreFixed;
        }

        boolean tellCards(int number) {
            if (cardsAreFixed || !within(number, 2, Order.MOST_CARDS)) {
                return false;
            }
            begin(number);
            return true;
        }

        boolean tellColour(int card, int colour) {
            if (!within(card, 0, cards - 1) || !within(colour, 0, 3)) {
                return false;
            }
            cardsAreFixed = true;
            colours = colours & ~(3 << 2 * card) | colour << 2 * card;
            return true;
        }

        boolean tellLacing(int kind) {
            return isKind(kind) && addAct(Move.lacing(kind, cards));
        }

        boolean tellCut(int c) {
            return within(c, 0, cards - 1) && addAct(Move.cutAt(c, cards));
        }

        int colourOf(int card) {
            return colours >>> 2 * card & 3;
        }

        boolean areUnlike(int card, int other) {
            return colourOf(card) != colourOf(other);
        }

        private void begin(int number) {
            cards = number;
            colours = FIRST_COLOURS;
            acts = 0;
            deal = Order.inOrder(number);
        }

        private boolean addAct(long move) {
            if (acts >= MOST_ACTS) {
                return false;
            }
            cardsAreFixed = true;
            deal = Order.moved(deal, move, cards);
            acts++;
            return true;
        }
    }

    /** Orders put away one upon the other. */
    private static final class Shelf {
        private final long[] stored;
        private int held;

        Shelf(int limit) {
            stored = new long[Math.max(limit, 1)];
        }

        boolean isFull() {
            return held >= stored.length;
        }

        /** On a full shelf the oldest order gives way. */
        void put(long order) {
            if (isFull()) {
                System.arraycopy(stored, 1, stored, 0, stored.length - 1);
                held = stored.length - 1;
            }
            if (held >= 0 && held < stored.length) {
                stored[held] = order;
                held++;
            }
        }

        /** The caller has looked that one is held. */
        long takeLast() {
            if (held <= 0 || held > stored.length) {
                return 0;
            }
            held--;
            return stored[held];
        }
    }

    /** What was seen behind one act, done to the pack as it was laid. */
    private static final class Sightings {
        private static final int LIMIT = 8;

        private final int[] cards = new int[LIMIT];
        private final int[] places = new int[LIMIT];
        private int held;

        boolean add(int card, int place) {
            if (held < 0 || held >= LIMIT) {
                return false;
            }
            cards[held] = card;
            places[held] = place;
            held++;
            return true;
        }

        boolean fit(long move) {
            for (int i = 0; i < held && i < LIMIT; i++) {
                if (Order.cardAt(move, places[i]) != cards[i]) {
                    return false;
                }
            }
            return true;
        }
    }

    /** Questions to orders and moves. */
    private static final class Order {
        private static final int MOST_CARDS = 16;

        static long inOrder(int cards) {
            long order = 0;
            for (int place = 0; place < cards; place++) {
                order = with(order, place, place);
            }
            return order;
        }

        static int cardAt(long order, int place) {
            return (int) (order >>> 4 * place) & 15;
        }

        /** The place has to be an empty one still. */
        static long with(long order, int place, int card) {
            return order | (long) card << 4 * place;
        }

        static int placeOf(long order, int cards, int card) {
            int found = 0;
            for (int place = 0; place < cards; place++) {
                if (cardAt(order, place) == card) {
                    found = place;
                }
            }
            return found;
        }

        static long moved(long order, long move, int cards) {
            long then = 0;
            for (int place = 0; place < cards; place++) {
                then = with(then, place, cardAt(order, cardAt(move, place)));
            }
            return then;
        }

        static int sameCards(long order, long other, int cards) {
            int same = 0;
            for (int place = 0; place < cards; place++) {
                if (cardAt(order, place) == cardAt(other, place)) {
                    same++;
                }
            }
            return same;
        }

        static int risingRows(long order, int cards) {
            long places = 0;
            for (int place = 0; place < cards; place++) {
                places = with(places, cardAt(order, place), place);
            }
            int rows = 1;
            for (int card = 0; card + 1 < cards; card++) {
                if (cardAt(places, card + 1) < cardAt(places, card)) {
                    rows++;
                }
            }
            return rows;
        }

        static int roundLength(long move, int cards, int place) {
            int from = place;
            for (int length = 1; length < cards; length++) {
                from = cardAt(move, from);
                if (from == place) {
                    return length;
                }
            }
            return cards;
        }

        static int roundCount(long move, int cards) {
            int walked = 0;
            int count = 0;
            for (int place = 0; place < cards; place++) {
                if ((walked >> place & 1) == 0) {
                    count++;
                    walked |= roundOf(move, cards, place);
                }
            }
            return count;
        }

        /** All lie as before when each round has closed, so it is their least common multiple. */
        static int timesTillSame(long move, int cards) {
            int times = 1;
            for (int place = 0; place < cards; place++) {
                int length = roundLength(move, cards, place);
                int shared = Fraction.commonDivisor(times, length);
                times = shared > 0 ? times / shared * length : times;
            }
            return times;
        }

        private static int roundOf(long move, int cards, int place) {
            int bits = 0;
            int from = place;
            for (int step = 0; step < cards; step++) {
                bits |= 1 << from;
                from = cardAt(move, from);
            }
            return bits;
        }
    }

    /** The moves of the acts. */
    private static final class Move {
        private static final int OUT = 0, IN = 1, MILK = 2, DOWN_AND_UNDER = 3;
        private static final int KINDS = 5;

        static long lacing(int kind, int cards) {
            if (kind == DOWN_AND_UNDER) {
                return downAndUnder(cards);
            }
            long move = 0;
            for (int place = 0; place < cards; place++) {
                move = Order.with(move, place, source(kind, cards, place));
            }
            return move;
        }

        static long cutAt(int c, int cards) {
            long move = 0;
            for (int place = 0; place < cards; place++) {
                int from = place + c;
                move = Order.with(move, place, from < cards ? from : from - cards);
            }
            return move;
        }

        static long turnedOver(int cards) {
            long move = 0;
            for (int place = 0; place < cards; place++) {
                move = Order.with(move, place, cards - 1 - place);
            }
            return move;
        }

        /** To which place a card comes by OUT or IN. */
        static int goal(int kind, int cards, int place) {
            int upperHalf = kind == OUT ? (cards + 1) / 2 : cards / 2;
            int upperTop = kind == OUT ? 0 : 1;
            return place < upperHalf ? 2 * place + upperTop : 2 * (place - upperHalf) + 1 - upperTop;
        }

        private static int source(int kind, int cards, int place) {
            int rank = place / 2;
            boolean first = place % 2 == 0;
            switch (kind) {
                case OUT:
                    return first ? rank : (cards + 1) / 2 + rank;
                case IN:
                    return first ? cards / 2 + rank : rank;
                case MILK:
                    return first ? rank : cards - 1 - rank;
                default:
                    return first ? cards - 1 - rank : rank;
            }
        }

        private static long downAndUnder(int cards) {
            long old = Order.inOrder(cards);
            long move = 0;
            for (int place = 0; place < cards; place++) {
                move = Order.with(move, place, Order.cardAt(old, 0));
                int left = cards - 1 - place;
                old >>>= 4;
                if (left > 1) {
                    old = Order.with(old >>> 4, left - 1, Order.cardAt(old, 0));
                }
            }
            return move;
        }
    }

    /** Searches by OUT and IN. */
    private static final class Finder {
        private static final int ORDERS_DEPTH = 6;
        private static final int BESIDE_DEPTH = 8;

        private final int[] stepsFrom = new int[Order.MOST_CARDS];
        // a tree: entry i leads by OUT to 2i+1 and by IN to 2i+2; each holds both places
        private final int[] pairTree = new int[(2 << BESIDE_DEPTH) - 1];
        private final long[] found = new long[(2 << ORDERS_DEPTH) - 1];

        /** Tells for each place how many lacings it is away from the goal, ahead of the two questions. */
        void findWaysTo(int goal, int cards) {
            for (int place = 0; place < stepsFrom.length; place++) {
                stepsFrom[place] = place == goal ? 0 : NONE;
            }
            for (int steps = 1; steps < cards; steps++) {
                for (int place = 0; place < cards && place < stepsFrom.length; place++) {
                    if (stepsFrom[place] == NONE && isNextTo(place, steps - 1, cards)) {
                        stepsFrom[place] = steps;
                    }
                }
            }
        }

        int fewestFrom(int place) {
            return place >= 0 && place < stepsFrom.length ? stepsFrom[place] : NONE;
        }

        int kindOnWay(int from, int k, int cards) {
            int place = from;
            int total = fewestFrom(from);
            if (k >= total) {
                return NONE;
            }
            for (int step = 0; step < k && step < total; step++) {
                place = Move.goal(firstKind(place, cards), cards, place);
            }
            return firstKind(place, cards);
        }

        int fewestTillNeighbours(int a, int b, int cards) {
            for (int i = 0; i < pairTree.length; i++) {
                int pair = i == 0 ? 16 * a + b : pairBehind(pairTree[(i - 1) / 2], (i - 1) % 2, cards);
                pairTree[i] = pair;
                if (Math.abs(pair / 16 - pair % 16) == 1) {
                    return depthOf(i);
                }
            }
            return NONE;
        }

        int countOrders(int lacings, int cards) {
            long out = Move.lacing(Move.OUT, cards);
            long in = Move.lacing(Move.IN, cards);
            found[0] = Order.inOrder(cards);
            int held = 1;
            int newest = 0;
            for (int step = 0; step < lacings; step++) {
                int end = held;
                for (int i = newest; i < end && i < found.length; i++) {
                    held = heldWith(Order.moved(found[i], out, cards), held);
                    held = heldWith(Order.moved(found[i], in, cards), held);
                }
                newest = end;
            }
            return held;
        }

        private boolean isNextTo(int place, int steps, int cards) {
            return fewestFrom(Move.goal(Move.OUT, cards, place)) == steps
                    || fewestFrom(Move.goal(Move.IN, cards, place)) == steps;
        }

        private int firstKind(int place, int cards) {
            int byOut = fewestFrom(Move.goal(Move.OUT, cards, place));
            return byOut == fewestFrom(place) - 1 ? Move.OUT : Move.IN;
        }

        private static int pairBehind(int pair, int kind, int cards) {
            return 16 * Move.goal(kind, cards, pair / 16) + Move.goal(kind, cards, pair % 16);
        }

        private static int depthOf(int entry) {
            int depth = 0;
            for (int step = 0; step < BESIDE_DEPTH; step++) {
                if (entry >= (2 << step) - 1) {
                    depth = step + 1;
                }
            }
            return depth;
        }

        private int heldWith(long order, int held) {
            for (int i = 0; i < held && i < found.length; i++) {
                if (found[i] == order) {
                    return held;
                }
            }
            if (held < 0 || held >= found.length) {
                return held;
            }
            found[held] = order;
            return held + 1;
        }
    }

    /** Ways in which two parts fall into each other so that all pairs are unlike. */
    private static final class Mix {
        private static final int ROW = Order.MOST_CARDS + 1;

        // entry ROW * i + j: ways in which i of the upper and j of the lower part lie in full pairs
        private final int[] ways = new int[ROW * ROW];

        int goodWays(Plan plan, long order, int upper) {
            int lower = plan.cards - upper;
            long dealt = dealtOff(order, upper, plan.cards);
            for (int i = 0; i <= upper; i++) {
                for (int j = i % 2; j <= lower; j += 2) {
                    setWays(i, j, waysByLastPair(plan, dealt, upper, i, j));
                }
            }
            if (plan.cards % 2 == 0) {
                return waysOf(upper, lower);
            }
            return waysOf(upper - 1, lower) + waysOf(upper, lower - 1);
        }

        /** The upper cards turned over, the lower ones as they were behind them. */
        private static long dealtOff(long order, int upper, int cards) {
            long dealt = 0;
            for (int place = 0; place < cards; place++) {
                int from = place < upper ? upper - 1 - place : place;
                dealt = Order.with(dealt, place, Order.cardAt(order, from));
            }
            return dealt;
        }

        private int waysByLastPair(Plan plan, long dealt, int upper, int i, int j) {
            if (i == 0 && j == 0) {
                return 1;
            }
            int sum = 0;
            if (i >= 2 && areUnlikeAt(plan, dealt, i - 2, i - 1)) {
                sum += waysOf(i - 2, j);
            }
            if (j >= 2 && areUnlikeAt(plan, dealt, upper + j - 2, upper + j - 1)) {
                sum += waysOf(i, j - 2);
            }
            if (i >= 1 && j >= 1 && areUnlikeAt(plan, dealt, i - 1, upper + j - 1)) {
                // either of the two may lie on top
                sum += 2 * waysOf(i - 1, j - 1);
            }
            return sum;
        }

        private static boolean areUnlikeAt(Plan plan, long dealt, int place, int other) {
            return plan.areUnlike(Order.cardAt(dealt, place), Order.cardAt(dealt, other));
        }

        private int waysOf(int i, int j) {
            return within(i, 0, ROW - 1) && within(j, 0, ROW - 1) ? ways[ROW * i + j] : 0;
        }

        private void setWays(int i, int j, int number) {
            if (within(i, 0, ROW - 1) && within(j, 0, ROW - 1)) {
                ways[ROW * i + j] = number;
            }
        }
    }

    /** Fractions in lowest terms. */
    private static final class Fraction {
        static int partOf(int above, int below, int part) {
            int shared = commonDivisor(above, below);
            if (shared <= 0) {
                return 0;
            }
            return part == 0 ? above / shared : below / shared;
        }

        static int commonDivisor(int a, int b) {
            int greater = a;
            int rest = b;
            // Euclid's steps for ints are fewer than 64
            for (int step = 0; step < 64 && rest != 0; step++) {
                int next = greater % rest;
                greater = rest;
                rest = next;
            }
            return greater;
        }

        /** In how many ways so many can be chosen out of all. */
        static int choices(int all, int chosen) {
            int number = 1;
            for (int i = 1; i <= chosen; i++) {
                number = number * (all - chosen + i) / i;
            }
            return number;
        }
    }
}
