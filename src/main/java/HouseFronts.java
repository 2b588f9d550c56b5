import java.util.Arrays;

/** Fronts of houses by rules: a grammar that splits a front, a front drawn by a seed, a board parsed back. */
public final class HouseFronts {
    public static final int UNKNOWN = -1, OUTSIDE = -2, STATE = -3, FULL = -4, NONE = -9, ENDLESS = -10;

    private static final int NAMES = 8;
    private static final int LETTERS = 26;
    private static final int RULES_MOST = 40;
    private static final int PARTS_MOST = 6;
    private static final int SIZE_MOST = 20;
    private static final int SHARE_MOST = 9;
    private static final int COST_MOST = 99;
    private static final int SCOPE_SIDE = 20;
    private static final int SCOPE_AREA = SCOPE_SIDE * SCOPE_SIDE;
    private static final int BOARD_SIDE = 9;
    private static final int BOARD_AREA = BOARD_SIDE * BOARD_SIDE;
    /** The spans (from, length) that lie within a side of the board: 9 of length 1, 8 of length 2, .. */
    private static final int BOARD_SPANS = BOARD_SIDE * (BOARD_SIDE + 1) / 2;
    private static final int LEVELS = 20;
    /** The places of one level lie apart from one another, so that there are no more than the scope has unit squares. */
    private static final int STEPS_MOST = LEVELS * SCOPE_AREA;
    private static final int FILL_KIND = 0, SPLIT_X = 1, SPLIT_Y = 2, REPEAT_X = 3, REPEAT_Y = 4;
    private static final int NO_FAULT = 0, NO_RULE = 1, DEEP = 2;
    private static final int FAULT_BASE = -100;
    private static final long WAYS_MOST = 1_000_000_000_000_000_000L;
    /** A weight is a cost times this and a count of rules: the lesser weight is the lesser cost, of like ones the fewer rules. */
    private static final long WEIGHT_OF_COST = 1L << 20;

    private final Grammar grammar = new Grammar();
    private final Layout layout = new Layout();
    private final Board board = new Board();
    private final Chart free = new Chart(grammar, layout, board, false);
    private final Chart bound = new Chart(grammar, layout, board, true);
    private final Walk walk = new Walk(grammar, layout);
    private Front front = new Front();
    private Front spare = new Front();
    private int faultKey = 0;

    public HouseFronts() {
    }

    // ---- rules

    public int fill(int name, int letter, int cost) {
        if (!isName(name)) {
            return UNKNOWN;
        }
        if (!isWithin(letter, 0, LETTERS - 1) || !isCost(cost)) {
            return OUTSIDE;
        }
        if (grammar.isFull()) {
            return FULL;
        }
        forgetParses();
        return grammar.addFill(name, letter, cost);
    }

    public int part(int name, int v, boolean share) {
        if (!isName(name)) {
            return UNKNOWN;
        }
        if (!isWithin(v, 1, share ? SHARE_MOST : SIZE_MOST)) {
            return OUTSIDE;
        }
        if (grammar.collected.number >= PARTS_MOST) {
            return FULL;
        }
        grammar.collected.add(name, share ? 0 : v, share ? v : 0);
        return grammar.collected.number;
    }

    public int split(int name, boolean y, int cost) {
        if (!isName(name)) {
            return UNKNOWN;
        }
        if (!isCost(cost)) {
            return OUTSIDE;
        }
        if (grammar.collected.number == 0) {
            return STATE;
        }
        if (grammar.isFull()) {
            return FULL;
        }
        forgetParses();
        return grammar.addSplit(name, y, cost);
    }

    public int repeat(int name, int of, int size, boolean y, int cost) {
        if (!isName(name) || !isName(of)) {
            return UNKNOWN;
        }
        if (!isWithin(size, 1, SIZE_MOST) || !isCost(cost)) {
            return OUTSIDE;
        }
        if (grammar.isFull()) {
            return FULL;
        }
        forgetParses();
        return grammar.addRepeat(name, of, size, y, cost);
    }

    public int only(int rule, boolean high, int from, int to) {
        if (!grammar.has(rule)) {
            return UNKNOWN;
        }
        if (from < 1 || to > SCOPE_SIDE || from > to) {
            return OUTSIDE;
        }
        grammar.rules[rule].limit(high, from, to);
        forgetParses();
        return 1;
    }

    public int clear() {
        int rules = grammar.number;
        grammar.empty();
        front.empty();
        forgetParses();
        return rules;
    }

    public int rule(int rule, int what) {
        if (!grammar.has(rule)) {
            return UNKNOWN;
        }
        Rule told = grammar.rules[rule];
        switch (what) {
            case 0:
                return told.name;
            case 1:
                return told.kind;
            case 2:
                return told.cost;
            case 3:
                return told.parts.number;
            case 4:
                return told.letter;
            default:
                return OUTSIDE;
        }
    }

    public int holds(int rule, int wide, int high) {
        if (!grammar.has(rule)) {
            return UNKNOWN;
        }
        if (!isScope(wide, high)) {
            return OUTSIDE;
        }
        return layout.lay(grammar.rules[rule], wide, high) ? 1 : 0;
    }

    public int piece(int rule, int wide, int high, int i, boolean length) {
        if (!grammar.has(rule)) {
            return UNKNOWN;
        }
        if (!isScope(wide, high)) {
            return OUTSIDE;
        }
        if (!layout.lay(grammar.rules[rule], wide, high)) {
            return STATE;
        }
        if (i < 0 || i >= layout.number) {
            return NONE;
        }
        return length ? layout.length[i] : layout.begin[i];
    }

    // ---- drawn

    public int draw(int seed, int wide, int high) {
        if (!isScope(wide, high)) {
            return OUTSIDE;
        }
        int kind = walk.grow(spare, seed, wide, high);
        if (kind != NO_FAULT) {
            faultKey = walk.key;
            return FAULT_BASE - kind;
        }
        faultKey = 0;
        Front former = front;
        front = spare;
        spare = former;
        return front.number;
    }

    public int at(int x, int y) {
        if (x < 0 || x >= front.wide || y < 0 || y >= front.high) {
            return NONE;
        }
        return front.letterOf(x, y);
    }

    public int step(int i) {
        if (i < 0 || i >= front.number) {
            return NONE;
        }
        return front.rules[i];
    }

    public int drawn() {
        return front.wide == 0 ? NONE : front.cost;
    }

    public int fault() {
        return faultKey;
    }

    public int take() {
        if (front.wide == 0 || front.wide > BOARD_SIDE || front.high > BOARD_SIDE) {
            return STATE;
        }
        board.begin(front.wide, front.high);
        for (int y = 0; y < front.high; y++) {
            for (int x = 0; x < front.wide; x++) {
                board.set(x, y, front.letterOf(x, y));
            }
        }
        bound.stale = true;
        return 1;
    }

    // ---- ways

    public long ways(int name, int wide, int high) {
        if (!isName(name)) {
            return UNKNOWN;
        }
        if (!isScope(wide, high)) {
            return OUTSIDE;
        }
        return free.waysOf(free.settle(name, 0, 0, wide, high));
    }

    public int least(int name, int wide, int high) {
        if (!isName(name)) {
            return UNKNOWN;
        }
        if (!isScope(wide, high)) {
            return OUTSIDE;
        }
        return free.costOf(free.settle(name, 0, 0, wide, high));
    }

    // ---- the board

    public int board(int wide, int high) {
        if (!isWithin(wide, 1, BOARD_SIDE) || !isWithin(high, 1, BOARD_SIDE)) {
            return OUTSIDE;
        }
        board.begin(wide, high);
        bound.stale = true;
        return 1;
    }

    public int put(int place, int letter) {
        if (!board.has(place)) {
            return UNKNOWN;
        }
        if (!isWithin(letter, 0, LETTERS - 1)) {
            return OUTSIDE;
        }
        int former = board.letters[place];
        board.letters[place] = (byte) letter;
        bound.stale = true;
        return former;
    }

    public long parses() {
        return bound.waysOf(settleBoard());
    }

    public int best() {
        return bound.costOf(settleBoard());
    }

    public int bestStep(int i) {
        if (i < 0 || i >= bound.stepsOf(settleBoard())) {
            return NONE;
        }
        walk.begin(board.wide, board.high, 0);
        for (int n = 0; n <= i && walk.next(); n++) {
            int rule = bound.pickOf(bound.settle(walk.name, walk.x, walk.y, walk.wide, walk.high));
            if (!grammar.has(rule)) {
                return NONE;
            }
            if (n == i) {
                return rule;
            }
            walk.spread(grammar.rules[rule]);
        }
        return NONE;
    }

    public long stands(int name, int place, int wide, int high) {
        if (!isName(name) || !board.has(place)) {
            return UNKNOWN;
        }
        int x = place % BOARD_SIDE;
        int y = place / BOARD_SIDE;
        if (!isWithin(wide, 1, board.wide - x) || !isWithin(high, 1, board.high - y)) {
            return OUTSIDE;
        }
        return bound.waysOf(bound.settle(name, x, y, wide, high));
    }

    public int count(int what) {
        switch (what) {
            case 0:
                return grammar.number;
            case 1:
                return grammar.collected.number;
            case 2:
                return board.wide;
            case 3:
                return board.high;
            case 4:
                return front.wide;
            case 5:
                return front.high;
            default:
                return OUTSIDE;
        }
    }

    private int settleBoard() {
        return bound.settle(0, 0, 0, board.wide, board.high);
    }

    private void forgetParses() {
        free.stale = true;
        bound.stale = true;
    }

    private static boolean isName(int name) {
        return isWithin(name, 0, NAMES - 1);
    }

    private static boolean isCost(int cost) {
        return isWithin(cost, 0, COST_MOST);
    }

    private static boolean isScope(int wide, int high) {
        return isWithin(wide, 1, SCOPE_SIDE) && isWithin(high, 1, SCOPE_SIDE);
    }

    private static boolean isWithin(int number, int from, int to) {
        return number >= from && number <= to;
    }

    /** Names with their sizes and shares; a part has the one or the other, the missing one is 0. */
    private static final class Parts {
        final int[] name = new int[PARTS_MOST];
        final int[] size = new int[PARTS_MOST];
        final int[] share = new int[PARTS_MOST];
        int number = 0;
        int sizes = 0;
        int shares = 0;

        void empty() {
            number = 0;
            sizes = 0;
            shares = 0;
        }

        void add(int newName, int newSize, int newShare) {
            if (number >= PARTS_MOST) {
                return;
            }
            name[number] = newName;
            size[number] = newSize;
            share[number] = newShare;
            sizes += newSize;
            shares += newShare;
            number++;
        }

        void copy(Parts other) {
            empty();
            for (int i = 0; i < other.number && i < PARTS_MOST; i++) {
                add(other.name[i], other.size[i], other.share[i]);
            }
        }
    }

    private static final class Rule {
        final Parts parts = new Parts();
        int name = 0;
        int kind = FILL_KIND;
        int cost = 0;
        int letter = NONE;
        int fromWide = 1;
        int toWide = SCOPE_SIDE;
        int fromHigh = 1;
        int toHigh = SCOPE_SIDE;

        void begin(int newName, int newKind, int newCost) {
            name = newName;
            kind = newKind;
            cost = newCost;
            letter = NONE;
            parts.empty();
            limit(false, 1, SCOPE_SIDE);
            limit(true, 1, SCOPE_SIDE);
        }

        void limit(boolean high, int from, int to) {
            if (high) {
                fromHigh = from;
                toHigh = to;
            } else {
                fromWide = from;
                toWide = to;
            }
        }

        boolean admits(int wide, int high) {
            return isWithin(wide, fromWide, toWide) && isWithin(high, fromHigh, toHigh);
        }

        boolean isAlongY() {
            return kind == SPLIT_Y || kind == REPEAT_Y;
        }

        boolean isRepeat() {
            return kind == REPEAT_X || kind == REPEAT_Y;
        }

        long weight() {
            return cost * WEIGHT_OF_COST + 1;
        }
    }

    private static final class Grammar {
        final Rule[] rules = new Rule[RULES_MOST];
        final Parts collected = new Parts();
        int number = 0;

        Grammar() {
            for (int r = 0; r < RULES_MOST; r++) {
                rules[r] = new Rule();
            }
        }

        boolean isFull() {
            return number >= RULES_MOST;
        }

        boolean has(int rule) {
            return rule >= 0 && rule < number;
        }

        void empty() {
            number = 0;
            collected.empty();
        }

        int addFill(int name, int letter, int cost) {
            if (isFull()) {
                return FULL;
            }
            rules[number].begin(name, FILL_KIND, cost);
            rules[number].letter = letter;
            return number++;
        }

        int addSplit(int name, boolean y, int cost) {
            if (isFull()) {
                return FULL;
            }
            rules[number].begin(name, y ? SPLIT_Y : SPLIT_X, cost);
            rules[number].parts.copy(collected);
            collected.empty();
            return number++;
        }

        int addRepeat(int name, int of, int size, boolean y, int cost) {
            if (isFull()) {
                return FULL;
            }
            rules[number].begin(name, y ? REPEAT_Y : REPEAT_X, cost);
            rules[number].parts.add(of, size, 0);
            return number++;
        }
    }

    /** The parts that a rule makes of a scope, laid out along its axis; one layout is used again for every scope. */
    private static final class Layout {
        final int[] name = new int[SCOPE_SIDE];
        final int[] begin = new int[SCOPE_SIDE];
        final int[] length = new int[SCOPE_SIDE];
        int number = 0;

        /** Whether the rule holds for the scope; if so, its parts are laid. */
        boolean lay(Rule rule, int wide, int high) {
            number = 0;
            if (!rule.admits(wide, high)) {
                return false;
            }
            if (rule.kind == FILL_KIND) {
                return true;
            }
            int whole = rule.isAlongY() ? high : wide;
            boolean fits = rule.isRepeat() ? layRepeat(rule.parts, whole) : laySplit(rule.parts, whole);
            if (!fits) {
                number = 0;
            }
            return fits;
        }

        private boolean laySplit(Parts parts, int whole) {
            int rest = whole - parts.sizes;
            if (rest < 0 || (parts.shares == 0 && rest != 0)) {
                return false;
            }
            number = parts.number;
            int over = rest;
            for (int i = 0; i < number; i++) {
                int cut = parts.shares > 0 ? rest * parts.share[i] / parts.shares : 0;
                name[i] = parts.name[i];
                length[i] = parts.size[i] + cut;
                over -= cut;
            }
            // what the cuts leave over is less than the shared parts' number, so that one round gives it all away
            for (int i = 0; i < number && over > 0; i++) {
                if (parts.share[i] > 0) {
                    length[i]++;
                    over--;
                }
            }
            return laidOneAfterAnother();
        }

        private boolean layRepeat(Parts parts, int whole) {
            int size = parts.size[0];
            int times = size > 0 ? whole / size : 0;
            if (times < 1 || times > SCOPE_SIDE) {
                return false;
            }
            number = times;
            // giving what is over one by one, again and again from the first, evens the lengths out
            for (int i = 0; i < number; i++) {
                name[i] = parts.name[0];
                length[i] = whole / times + (i < whole % times ? 1 : 0);
            }
            return laidOneAfterAnother();
        }

        private boolean laidOneAfterAnother() {
            int next = 0;
            for (int i = 0; i < number; i++) {
                if (length[i] < 1) {
                    return false;
                }
                begin[i] = next;
                next += length[i];
            }
            return true;
        }
    }

    private static final class Board {
        final byte[] letters = new byte[BOARD_AREA];
        int wide = 1;
        int high = 1;

        void begin(int newWide, int newHigh) {
            wide = newWide;
            high = newHigh;
            Arrays.fill(letters, (byte) 0);
        }

        boolean has(int place) {
            return place >= 0 && place < BOARD_AREA && place % BOARD_SIDE < wide && place / BOARD_SIDE < high;
        }

        void set(int x, int y, int letter) {
            int place = x + BOARD_SIDE * y;
            if (has(place)) {
                letters[place] = (byte) letter;
            }
        }

        /** The one letter that all places of a part of the board have; NONE if there are several. */
        int soleLetter(int fromX, int fromY, int partWide, int partHigh) {
            int first = fromX + BOARD_SIDE * fromY;
            if (!has(first) || !has(first + (partWide - 1) + BOARD_SIDE * (partHigh - 1))) {
                return NONE;
            }
            int letter = letters[first];
            for (int y = 0; y < partHigh; y++) {
                int row = first + BOARD_SIDE * y;
                for (int x = 0; x < partWide; x++) {
                    if (letters[row + x] != letter) {
                        return NONE;
                    }
                }
            }
            return letter;
        }
    }

    /** What was drawn; nothing, if it is 0 wide. */
    private static final class Front {
        final byte[] letters = new byte[SCOPE_AREA];
        final byte[] rules = new byte[STEPS_MOST];
        int wide = 0;
        int high = 0;
        int number = 0;
        int cost = 0;

        void empty() {
            begin(0, 0);
        }

        void begin(int newWide, int newHigh) {
            wide = newWide;
            high = newHigh;
            number = 0;
            cost = 0;
        }

        void add(int rule, int ruleCost) {
            if (number < STEPS_MOST) {
                rules[number] = (byte) rule;
                number++;
                cost += ruleCost;
            }
        }

        int letterOf(int x, int y) {
            int place = x + SCOPE_SIDE * y;
            return place >= 0 && place < SCOPE_AREA ? letters[place] : NONE;
        }

        void paint(int fromX, int fromY, int partWide, int partHigh, int letter) {
            for (int y = fromY; y < fromY + partHigh; y++) {
                int from = fromX + SCOPE_SIDE * y;
                if (from >= 0 && from + partWide <= SCOPE_AREA) {
                    Arrays.fill(letters, from, from + partWide, (byte) letter);
                }
            }
        }
    }

    /**
     * Goes through the places of a derivation from the top, each ahead of its parts, parts in order.
     * The waiting places lie apart from one another, so that there is room for one for each unit square.
     */
    private static final class Walk {
        private final Grammar grammar;
        private final Layout layout;
        /** name, x, y, wide, high, key and depth of each waiting place. */
        private final int[][] pile = new int[7][SCOPE_AREA];
        private final int[] fitting = new int[RULES_MOST];
        private int waiting = 0;
        int name = 0;
        int x = 0;
        int y = 0;
        int wide = 0;
        int high = 0;
        int key = 0;
        int depth = 0;

        Walk(Grammar grammar, Layout layout) {
            this.grammar = grammar;
            this.layout = layout;
        }

        void begin(int topWide, int topHigh, int topKey) {
            waiting = 0;
            push(0, 0, 0, topWide, topHigh, topKey, 0);
        }

        private void push(int newName, int newX, int newY, int newWide, int newHigh, int newKey, int newDepth) {
            if (waiting >= SCOPE_AREA) {
                return;
            }
            pile[0][waiting] = newName;
            pile[1][waiting] = newX;
            pile[2][waiting] = newY;
            pile[3][waiting] = newWide;
            pile[4][waiting] = newHigh;
            pile[5][waiting] = newKey;
            pile[6][waiting] = newDepth;
            waiting++;
        }

        /** Goes on to the next place; false if none waits. */
        boolean next() {
            if (waiting <= 0) {
                return false;
            }
            waiting--;
            name = pile[0][waiting];
            x = pile[1][waiting];
            y = pile[2][waiting];
            wide = pile[3][waiting];
            high = pile[4][waiting];
            key = pile[5][waiting];
            depth = pile[6][waiting];
            return true;
        }

        /** Lets the parts that the rule makes of this place wait, the first one on top. */
        void spread(Rule rule) {
            if (!layout.lay(rule, wide, high)) {
                return;
            }
            boolean alongY = rule.isAlongY();
            for (int i = layout.number - 1; i >= 0; i--) {
                int begin = layout.begin[i];
                int length = layout.length[i];
                int partKey = 31 * key + i + 1;
                if (alongY) {
                    push(layout.name[i], x, y + begin, wide, length, partKey, depth + 1);
                } else {
                    push(layout.name[i], x + begin, y, length, high, partKey, depth + 1);
                }
            }
        }

        /** Draws to the front: the kind of the fault, whose key is then that of this place, or NO_FAULT. */
        int grow(Front front, int seed, int topWide, int topHigh) {
            front.begin(topWide, topHigh);
            begin(topWide, topHigh, seed);
            for (int n = 0; n <= STEPS_MOST && next(); n++) {
                if (depth >= LEVELS) {
                    return DEEP;
                }
                int chosen = choose();
                if (!grammar.has(chosen)) {
                    return NO_RULE;
                }
                Rule rule = grammar.rules[chosen];
                front.add(chosen, rule.cost);
                if (rule.kind == FILL_KIND) {
                    front.paint(x, y, wide, high, rule.letter);
                } else {
                    spread(rule);
                }
            }
            return NO_FAULT;
        }

        private int choose() {
            int m = 0;
            for (int r = 0; r < grammar.number && r < RULES_MOST; r++) {
                Rule rule = grammar.rules[r];
                if (rule.name == name && layout.lay(rule, wide, high)) {
                    fitting[m] = r;
                    m++;
                }
            }
            return m == 0 ? NONE : fitting[((key * 1103515245 + 12345) >>> 16 & 0x7fff) % m];
        }
    }

    /**
     * Ways and best derivations of names on cells, each worked out when first asked for and kept until it is stale.
     * A cell is a span along x and a span along y. The free chart fills with any letters, so that its spans
     * differ by length alone; the bound one asks for the board's letters. Shorter spans have lesser numbers:
     * what a rule makes of a cell are lesser cells, or the cell itself, whole.
     */
    private static final class Chart {
        private final Grammar grammar;
        private final Layout layout;
        private final Board board;
        private final boolean lettered;
        private final int spans;
        private final int[] start;
        private final int[] length;
        /** For each cell the names that are asked for, that are settled, a bit each. */
        private final int[] asked;
        private final int[] settled;
        /** For each name on each cell. */
        private final long[] ways;
        private final long[] weights;
        private final byte[] picks;
        private final Knot knot = new Knot();
        boolean stale = false;

        Chart(Grammar grammar, Layout layout, Board board, boolean lettered) {
            this.grammar = grammar;
            this.layout = layout;
            this.board = board;
            this.lettered = lettered;
            spans = lettered ? BOARD_SPANS : SCOPE_SIDE;
            start = new int[spans];
            length = new int[spans];
            int longest = lettered ? BOARD_SIDE : SCOPE_SIDE;
            int span = 0;
            for (int l = 1; l <= longest; l++) {
                int starts = lettered ? BOARD_SIDE - l + 1 : 1;
                for (int s = 0; s < starts && span < spans; s++) {
                    start[span] = s;
                    length[span] = l;
                    span++;
                }
            }
            asked = new int[spans * spans];
            settled = new int[spans * spans];
            ways = new long[spans * spans * NAMES];
            weights = new long[spans * spans * NAMES];
            picks = new byte[spans * spans * NAMES];
        }

        /** Settles a name on a cell, and all that it rests on: its number for the questions below. */
        int settle(int name, int x, int y, int wide, int high) {
            if (stale) {
                Arrays.fill(asked, 0);
                Arrays.fill(settled, 0);
                stale = false;
            }
            int cell = spanOf(x, wide) * spans + spanOf(y, high);
            if (cell < 0 || cell >= settled.length || !isName(name)) {
                return NONE;
            }
            asked[cell] |= 1 << name;
            if ((settled[cell] >> name & 1) == 0) {
                for (int c = cell; c >= 0; c--) {
                    askBelow(c);
                }
                for (int c = 0; c <= cell; c++) {
                    settleCell(c);
                }
            }
            return cell * NAMES + name;
        }

        long waysOf(int slot) {
            return slot >= 0 && slot < ways.length ? ways[slot] : 0;
        }

        int costOf(int slot) {
            long weight = weightOf(slot);
            return weight < 0 ? NONE : (int) (weight / WEIGHT_OF_COST);
        }

        int stepsOf(int slot) {
            long weight = weightOf(slot);
            return weight < 0 ? 0 : (int) (weight % WEIGHT_OF_COST);
        }

        int pickOf(int slot) {
            return slot >= 0 && slot < picks.length ? picks[slot] : NONE;
        }

        private long weightOf(int slot) {
            return slot >= 0 && slot < weights.length ? weights[slot] : NONE;
        }

        private int spanOf(int from, int spanLength) {
            return lettered ? (spanLength - 1) * (2 * BOARD_SIDE + 2 - spanLength) / 2 + from : spanLength - 1;
        }

        /** The cell of a part that is laid out on a cell. */
        private int cellOfPart(int cell, boolean alongY, int i) {
            int across = cell / spans;
            int up = cell % spans;
            if (alongY) {
                up = spanOf(start[up] + layout.begin[i], layout.length[i]);
            } else {
                across = spanOf(start[across] + layout.begin[i], layout.length[i]);
            }
            return across * spans + up;
        }

        /** Asks for all that the cell's asked names rest on; a rule that keeps the cell whole asks for one more name here. */
        private void askBelow(int cell) {
            int wide = length[cell / spans];
            int high = length[cell % spans];
            int done = settled[cell];
            for (int round = 0; round < NAMES && (asked[cell] & ~done) != 0; round++) {
                int fresh = asked[cell] & ~done;
                done |= fresh;
                for (int r = 0; r < grammar.number; r++) {
                    Rule rule = grammar.rules[r];
                    if ((fresh >> rule.name & 1) != 0 && layout.lay(rule, wide, high)) {
                        askParts(cell, rule.isAlongY());
                    }
                }
            }
        }

        private void askParts(int cell, boolean alongY) {
            for (int i = 0; i < layout.number; i++) {
                int below = cellOfPart(cell, alongY, i);
                if (below >= 0 && below <= cell) {
                    asked[below] |= 1 << layout.name[i];
                }
            }
        }

        private void settleCell(int cell) {
            int fresh = asked[cell] & ~settled[cell];
            if (fresh == 0) {
                return;
            }
            int wide = length[cell / spans];
            int high = length[cell % spans];
            int sole = lettered ? board.soleLetter(start[cell / spans], start[cell % spans], wide, high) : NONE;
            knot.begin();
            for (int r = 0; r < grammar.number; r++) {
                Rule rule = grammar.rules[r];
                if ((fresh >> rule.name & 1) == 0 || !layout.lay(rule, wide, high)) {
                    continue;
                }
                if (rule.kind == FILL_KIND) {
                    if (!lettered || rule.letter == sole) {
                        knot.gain(rule.name, r, 1, rule.weight());
                    }
                } else if (layout.number == 1 && (fresh >> layout.name[0] & 1) != 0) {
                    knot.tie(rule.name, r, layout.name[0], rule.weight());
                } else {
                    gainOfParts(cell, r, rule);
                }
            }
            knot.settle();
            keep(cell, fresh);
        }

        /** What a rule brings whose parts are all settled. */
        private void gainOfParts(int cell, int r, Rule rule) {
            boolean alongY = rule.isAlongY();
            boolean endless = false;
            long many = 1;
            long weight = rule.weight();
            for (int i = 0; i < layout.number; i++) {
                int slot = cellOfPart(cell, alongY, i) * NAMES + layout.name[i];
                long below = waysOf(slot);
                if (below == 0) {
                    return;
                }
                if (below == ENDLESS) {
                    endless = true;
                } else {
                    many = times(many, below);
                }
                weight += weightOf(slot);
            }
            knot.gain(rule.name, r, endless ? ENDLESS : many, weight);
        }

        private void keep(int cell, int fresh) {
            for (int name = 0; name < NAMES; name++) {
                if ((fresh >> name & 1) != 0) {
                    int slot = cell * NAMES + name;
                    ways[slot] = knot.waysOf(name);
                    weights[slot] = knot.weight[name];
                    picks[slot] = (byte) knot.pick[name];
                }
            }
            settled[cell] |= fresh;
        }

        private static long times(long a, long b) {
            return b > 0 && a > WAYS_MOST / b ? WAYS_MOST : a * b;
        }
    }

    /** The names on one cell, some of them tied to others by rules that keep the cell whole, perhaps in circles. */
    private static final class Knot {
        /** Ways without the ties, and with them. */
        private final long[] own = new long[NAMES];
        private final long[] total = new long[NAMES];
        private final long[] former = new long[NAMES];
        final long[] weight = new long[NAMES];
        final int[] pick = new int[NAMES];
        private final int[] tieName = new int[RULES_MOST];
        private final int[] tieRule = new int[RULES_MOST];
        private final int[] tieTo = new int[RULES_MOST];
        private final long[] tieWeight = new long[RULES_MOST];
        private int ties = 0;
        private int endless = 0;

        void begin() {
            Arrays.fill(own, 0);
            Arrays.fill(weight, NONE);
            Arrays.fill(pick, NONE);
            ties = 0;
            endless = 0;
        }

        /** Rules come by number, so that of like weights the first one stays. */
        void gain(int name, int rule, long ways, long ruleWeight) {
            if (ways == ENDLESS) {
                endless |= 1 << name;
            } else {
                own[name] = plus(own[name], ways);
            }
            if (weight[name] < 0 || ruleWeight < weight[name]) {
                weight[name] = ruleWeight;
                pick[name] = rule;
            }
        }

        void tie(int name, int rule, int to, long ruleWeight) {
            if (ties >= RULES_MOST) {
                return;
            }
            tieName[ties] = name;
            tieRule[ties] = rule;
            tieTo[ties] = to;
            tieWeight[ties] = ruleWeight;
            ties++;
        }

        long waysOf(int name) {
            return (endless >> name & 1) != 0 ? ENDLESS : total[name];
        }

        void settle() {
            System.arraycopy(own, 0, total, 0, NAMES);
            if (ties > 0) {
                findEndless();
                sumTies();
                lightenByTies();
                pickAmongTies();
            }
        }

        /** Eight ties in a row lead through a circle; it counts if a name with a derivation is at the end. */
        private void findEndless() {
            int alive = 0;
            for (int name = 0; name < NAMES; name++) {
                if (weight[name] >= 0) {
                    alive |= 1 << name;
                }
            }
            for (int round = 0; round < NAMES; round++) {
                alive |= tiedTo(alive);
            }
            int circling = alive;
            for (int round = 0; round < NAMES; round++) {
                circling = tiedTo(circling);
            }
            endless |= circling;
            for (int round = 0; round < NAMES; round++) {
                endless |= tiedTo(endless);
            }
        }

        private int tiedTo(int names) {
            int found = 0;
            for (int t = 0; t < ties; t++) {
                if ((names >> tieTo[t] & 1) != 0) {
                    found |= 1 << tieName[t];
                }
            }
            return found;
        }

        /** Where nothing is endless, no derivation has eight ties in a row, so that eight rounds reach them all. */
        private void sumTies() {
            for (int round = 0; round < NAMES; round++) {
                System.arraycopy(total, 0, former, 0, NAMES);
                System.arraycopy(own, 0, total, 0, NAMES);
                for (int t = 0; t < ties; t++) {
                    int name = tieName[t];
                    total[name] = plus(total[name], former[tieTo[t]]);
                }
            }
        }

        private void lightenByTies() {
            for (int round = 0; round < NAMES; round++) {
                for (int t = 0; t < ties; t++) {
                    int name = tieName[t];
                    long below = weight[tieTo[t]];
                    if (below >= 0 && (weight[name] < 0 || below + tieWeight[t] < weight[name])) {
                        weight[name] = below + tieWeight[t];
                        pick[name] = RULES_MOST;
                    }
                }
            }
        }

        private void pickAmongTies() {
            for (int t = 0; t < ties; t++) {
                int name = tieName[t];
                long below = weight[tieTo[t]];
                if (below >= 0 && below + tieWeight[t] == weight[name] && tieRule[t] < pick[name]) {
                    pick[name] = tieRule[t];
                }
            }
        }

        private static long plus(long a, long b) {
            return Math.min(a + b, WAYS_MOST);
        }
    }
}
