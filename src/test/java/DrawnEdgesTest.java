/** The document's point 2, what is drawn, and promises 11 to 16: each sentence that names a boundary, with a test of its own. */
public final class DrawnEdgesTest {
    private static final int A = 0, B = 1, C = 2, D = 3, E = 4, F = 5, G = 6, H = 7;
    private static final int OUTSIDE = -2, STATE = -3, NONE = -9, NO_RULE = -101, DEEP = -102;
    private static final int LEAST = Integer.MIN_VALUE, MOST = Integer.MAX_VALUE;
    private static final boolean X = false, Y = true, WIDE = false, HIGH = true;

    private DrawnEdgesTest() {
    }

    public static void main(String[] args) {
        scopes();
        topKey();
        partKeys();
        partKeysWrap();
        number();
        numberWraps();
        rulesThatHold();
        modulo();
        noRule();
        deep();
        justNotDeep();
        deepAndNoRule();
        firstMet();
        stays();
        places();
        at();
        step();
        drawn();
        fault();
        take();
        takeTooLarge();
        takeLetters();
        drawnAnew();
        nothingLeftOver();
        Due.end("DrawnEdgesTest");
    }

    private static void due(String call, long got, long want) {
        Due.due(call, got, want);
    }

    /** A part is a name and a size, or a share told as a number below 0. */
    private static int split(HouseFronts f, int name, boolean y, int cost, int... parts) {
        for (int i = 0; i + 1 < parts.length; i += 2) {
            f.part(parts[i], Math.abs(parts[i + 1]), parts[i + 1] < 0);
        }
        return f.split(name, y, cost);
    }

    private static void scopes() {
        Due.sentence("1: a SCOPE (so wide, so high, 1 to 20 each): of a front that is DRAWN");
        HouseFronts f = new HouseFronts();
        f.fill(A, 7, 0);
        int[][] scopes = {{1, 1}, {20, 20}, {1, 20}, {20, 1}};
        for (int[] scope : scopes) {
            String on = " " + scope[0] + " to " + scope[1];
            due("draw" + on, f.draw(0, scope[0], scope[1]), 1);
            due("width" + on, f.count(4), scope[0]);
            due("height" + on, f.count(5), scope[1]);
            due("last place" + on, f.at(scope[0] - 1, scope[1] - 1), 7);
        }
    }

    private static void topKey() {
        Due.sentence("2: a KEY (that of the top is the SEED)");
        HouseFronts f = new HouseFronts();
        for (int seed : new int[] {1, -1, LEAST, MOST, 0}) {
            due("draw", f.draw(seed, 1, 1), NO_RULE);
            due("fault() of seed " + seed, f.fault(), seed);
        }
    }

    private static void partKeys() {
        Due.sentence("2: that of PART i, 0, 1, .., of a place with KEY k is 31 k + i + 1");
        // five parts that are filled, and then one without a rule
        for (int i = 0; i < 6; i++) {
            HouseFronts f = new HouseFronts();
            for (int p = 0; p < 6; p++) {
                f.part(p == i ? C : B, 1, false);
            }
            f.split(A, X, 0);
            f.fill(B, 0, 0);
            due("draw", f.draw(100, 6, 1), NO_RULE);
            due("key of part " + i, f.fault(), 3101 + i);
        }
        HouseFronts f = new HouseFronts();
        f.repeat(A, B, 1, Y, 0);
        f.fill(B, 0, 0);
        f.only(1, WIDE, 2, 20);
        split(f, B, X, 0, B, -1);
        f.only(2, WIDE, 2, 20);
        due("draw", f.draw(100, 1, 20), NO_RULE);
        due("key of a repeat's first", f.fault(), 3101);
        Due.sentence("2: of a place with KEY k: below a PART too");
        HouseFronts g = new HouseFronts();
        g.repeat(A, B, 1, X, 0);
        split(g, B, Y, 0, C, 1, D, 1);
        g.fill(C, 0, 0);
        g.fill(D, 0, 0);
        g.only(3, HIGH, 2, 2);
        due("draw", g.draw(2, 20, 2), NO_RULE);
        due("31 * (31 * 2 + 1) + 2", g.fault(), 1955);
    }

    private static void partKeysWrap() {
        Due.sentence("2: 31 k + i + 1, as an int");
        HouseFronts f = new HouseFronts();
        split(f, A, X, 0, B, 1, C, 1);
        f.fill(B, 0, 0);
        // 31 * (2^31 - 1) + 2 is 15 * 2^32 + 2^31 - 29; 31 * -2^31 + 2 is -16 * 2^32 + 2^31 + 2
        int[][] keys = {{MOST, 2147483619}, {LEAST, -2147483646}, {69273666, -2147483648}, {69273665, 2147483617}, {-1, -29}};
        for (int[] key : keys) {
            due("draw", f.draw(key[0], 2, 1), NO_RULE);
            due("key of part 1, seed " + key[0], f.fault(), key[1]);
        }
    }

    /** 40 rules that all hold: the number modulo 40 is told by step(0). */
    private static HouseFronts forty() {
        HouseFronts f = new HouseFronts();
        for (int r = 0; r < 40; r++) {
            f.fill(A, r % 26, r);
        }
        return f;
    }

    private static void number() {
        Due.sentence("2: the one of number (KEY times 1103515245 and 12345, .., 16 bits shifted out) modulo m");
        HouseFronts f = forty();
        // 12345 shifted is 0; 1103527590 shifted is 16838, 38 modulo 40
        int[][] seeds = {{0, 0}, {1, 38}};
        for (int[] seed : seeds) {
            due("draw", f.draw(seed[0], 1, 1), 1);
            due("seed " + seed[0], f.step(0), seed[1]);
        }
    }

    private static void numberWraps() {
        Due.sentence("2: (KEY times 1103515245 and 12345, as an int, .., 15 bits taken)");
        HouseFronts f = forty();
        // 2: 2207042835 shifted is 33676, 15 bits of it 908. -1: 3191464396, 48697, 15929. 2^30: 16384. -2^31: 2^31 + 12345, 0.
        int[][] seeds = {{2, 908}, {-1, 15929}, {MOST, 15929}, {1 << 30, 16384}, {LEAST, 0}};
        for (int[] seed : seeds) {
            f.draw(seed[0], 1, 1);
            due("seed " + seed[0], f.step(0), seed[1] % 40);
            due("its letter, seed " + seed[0], f.at(0, 0), seed[1] % 40 % 26);
            due("its cost, seed " + seed[0], f.drawn(), seed[1] % 40);
        }
        Due.sentence("2: and 12345: no more, no less");
        // the 16 bits that are shifted out are all 0, or all 1
        int[][] edges = {{42627, 16213}, {-22909, 28904}, {47902, 4230}, {-17634, 16921}};
        for (int[] seed : edges) {
            f.draw(seed[0], 1, 1);
            due("seed " + seed[0], f.step(0), seed[1] % 40);
        }
    }

    private static void rulesThatHold() {
        Due.sentence("2: of the m RULES of its NAME that hold, by number");
        HouseFronts f = new HouseFronts();
        f.fill(B, 0, 0);
        f.fill(A, 1, 0);
        split(f, A, X, 0, B, 2, B, 1);
        f.fill(A, 3, 0);
        f.only(3, HIGH, 2, 20);
        f.fill(H, 4, 0);
        f.fill(A, 5, 0);
        f.repeat(A, B, 2, Y, 0);
        // on 1 to 1 rules 1 and 5 hold: the number of seed 1 is 16838, of seed -1 15929
        f.draw(1, 1, 1);
        due("number 0 of two", f.step(0), 1);
        f.draw(-1, 1, 1);
        due("number 1 of two", f.step(0), 5);
        // on 3 to 2 rules 1, 2, 3, 5, 6 hold: 16838 modulo 5 is 3, 15929 is 4, 16384 is 4, 908 is 3, 0 is 0
        f.draw(1, 3, 2);
        due("number 3 of five", f.step(0), 5);
        f.draw(-1, 3, 2);
        due("number 4 of five", f.step(0), 6);
        f.draw(0, 3, 2);
        due("number 0 of five", f.step(0), 1);
    }

    private static void modulo() {
        Due.sentence("2: modulo m, m is 1");
        HouseFronts f = new HouseFronts();
        f.fill(B, 0, 0);
        f.fill(A, 8, 0);
        for (int seed : new int[] {0, 1, 2, -1, MOST, LEAST, 77}) {
            due("draw", f.draw(seed, 2, 2), 1);
            due("the only one", f.step(0), 1);
        }
    }

    private static void noRule() {
        Due.sentence("2: 1 NO RULE holds (m is 0): there are no RULES at all");
        HouseFronts f = new HouseFronts();
        due("draw", f.draw(4, 2, 2), NO_RULE);
        Due.sentence("2: 1 NO RULE holds (m is 0): none is of this NAME");
        f.fill(B, 0, 0);
        due("draw", f.draw(4, 2, 2), NO_RULE);
        Due.sentence("2: 1 NO RULE holds (m is 0): none FITS");
        split(f, A, X, 0, B, 3);
        f.repeat(A, B, 3, Y, 0);
        due("draw", f.draw(4, 2, 2), NO_RULE);
        due("draw, the split fits", f.draw(4, 3, 2), 2);
        Due.sentence("2: 1 NO RULE holds (m is 0): none is for this width, height");
        f.fill(A, 0, 0);
        f.only(3, WIDE, 3, 3);
        f.fill(A, 0, 0);
        f.only(4, HIGH, 1, 1);
        due("draw", f.draw(4, 2, 2), NO_RULE);
        due("draw, the fill holds", f.draw(4, 2, 1), 1);
    }

    private static int chainKey(int seed, int levels) {
        int key = seed;
        for (int level = 0; level < levels; level++) {
            key = 31 * key + 1;
        }
        return key;
    }

    private static void deep() {
        Due.sentence("2: 2 DEEP: a place would lie below 20 others or more");
        HouseFronts f = new HouseFronts();
        split(f, A, X, 1, A, -1);
        due("an endless chain", f.draw(7, 1, 1), DEEP);
        due("its key", f.fault(), chainKey(7, 20));
        due("another seed", f.draw(-8, 20, 20), DEEP);
        due("its key", f.fault(), chainKey(-8, 20));
        f.clear();
        // the twentieth peel, of 1, would be the place below 20 others
        split(f, A, Y, 0, B, -1);
        split(f, B, X, 0, B, -9, C, 1);
        f.fill(C, 0, 0);
        f.fill(B, 0, 0);
        f.only(3, WIDE, 1, 1);
        due("1 + 20 places in a row", f.draw(0, 20, 1), DEEP);
    }

    private static void justNotDeep() {
        Due.sentence("2: 2 DEEP: a place below 19 others is not");
        HouseFronts f = new HouseFronts();
        split(f, A, X, 1, A, -9, B, 1);
        f.fill(B, 1, 0);
        f.fill(A, 2, 0);
        f.only(2, WIDE, 1, 1);
        due("20 places in a row", f.draw(3, 20, 1), 39);
        due("no fault", f.fault(), 0);
        due("the deepest one's rule", f.step(19), 2);
        due("the deepest one's letter", f.at(0, 0), 2);
        due("the last one's rule", f.step(38), 1);
    }

    private static void deepAndNoRule() {
        Due.sentence("2: 1 NO RULE: at a place below 19 others");
        HouseFronts f = new HouseFronts();
        split(f, A, X, 0, A, -9, B, 1);
        f.fill(B, 0, 0);
        due("A is 1 wide, the split does not fit", f.draw(6, 20, 1), NO_RULE);
        due("its key", f.fault(), chainKey(6, 19));
        Due.sentence("2: 2 DEEP: the place that would lie below 20 others is not asked for RULES");
        HouseFronts g = new HouseFronts();
        split(g, A, Y, 0, C, -1);
        split(g, C, X, 0, C, -9, B, 1);
        g.fill(B, 0, 0);
        due("C is 1 wide, the split does not fit", g.draw(6, 20, 1), DEEP);
        due("its key", g.fault(), chainKey(6, 20));
    }

    private static void firstMet() {
        Due.sentence("2: The first met, PARTS in order, each with all below it, ends it");
        HouseFronts f = new HouseFronts();
        // part 0's part 1 ahead of part 1
        split(f, A, X, 0, B, 2, D, 1);
        split(f, B, Y, 0, C, 1, D, 1);
        f.fill(C, 0, 0);
        due("no D", f.draw(10, 3, 2), NO_RULE);
        due("below part 0", f.fault(), 31 * 311 + 2);
        f.fill(D, 0, 0);
        f.only(3, WIDE, 2, 2);
        due("no D that is 1 wide", f.draw(10, 3, 2), NO_RULE);
        due("part 1", f.fault(), 312);
        Due.sentence("2: The first met: 2 DEEP ahead of 1 NO RULE");
        HouseFronts g = new HouseFronts();
        split(g, A, X, 0, B, 1, C, 1);
        split(g, B, X, 0, B, -1);
        due("B is endless, C has no rule", g.draw(5, 2, 1), DEEP);
        due("its key", g.fault(), chainKey(5, 20));
        Due.sentence("2: The first met: 1 NO RULE ahead of 2 DEEP");
        HouseFronts h = new HouseFronts();
        split(h, A, X, 0, C, 1, B, 1);
        split(h, B, X, 0, B, -1);
        due("C has no rule, B is endless", h.draw(5, 2, 1), NO_RULE);
        due("its key", h.fault(), 156);
    }

    private static void stays() {
        for (int kind = 1; kind <= 2; kind++) {
            Due.sentence("11: -100 less the KIND of a FAULT (what was DRAWN stays), KIND " + kind);
            HouseFronts f = new HouseFronts();
            int top = split(f, A, Y, 5, B, 1, C, -1);
            f.fill(B, 1, 6);
            f.fill(C, 2, 7);
            due("draw", f.draw(8, 3, 4), 3);
            // B is painted with another letter ahead of the fault at C
            f.only(1, HIGH, 2, 2);
            f.only(2, HIGH, 20, 20);
            f.fill(B, 9, 50);
            if (kind == 2) {
                split(f, C, X, 0, C, -1);
            }
            due("fault", f.draw(9, 4, 3), -100 - kind);
            due("letter of B", f.at(0, 0), 1);
            due("letter of C", f.at(2, 3), 2);
            due("no place beyond", f.at(3, 0), NONE);
            due("width", f.count(4), 3);
            due("height", f.count(5), 4);
            due("cost", f.drawn(), 18);
            due("step 0", f.step(0), top);
            due("step 1", f.step(1), 1);
            due("step 2", f.step(2), 2);
            due("no step 3", f.step(3), NONE);
            due("another fault", f.draw(10, 20, 19), -100 - kind);
            due("letter of B still", f.at(2, 0), 1);
            due("it can be taken", f.take(), 1);
            due("as it was", f.put(1 + 9 * 3, 0), 2);
        }
        Due.sentence("11: what was DRAWN stays: nothing");
        HouseFronts g = new HouseFronts();
        due("fault", g.draw(9, 4, 3), NO_RULE);
        due("width", g.count(4), 0);
        due("drawn()", g.drawn(), NONE);
        due("at(0, 0)", g.at(0, 0), NONE);
        due("step(0)", g.step(0), NONE);
    }

    private static void places() {
        Due.sentence("1: PARTS lie from the lowest place on, in order: below PARTS that lie apart from the edges");
        HouseFronts f = new HouseFronts();
        split(f, A, X, 0, B, 1, C, -1);
        split(f, C, Y, 0, B, 2, D, -1);
        split(f, D, X, 0, E, 1, F, 2);
        f.repeat(F, G, 1, Y, 0);
        split(f, G, X, 0, E, 1, H, 1);
        f.fill(B, 1, 0);
        f.fill(E, 4, 0);
        f.fill(H, 7, 0);
        due("draw", f.draw(0, 4, 4), 13);
        int[][] rows = {{1, 1, 1, 1}, {1, 1, 1, 1}, {1, 4, 4, 7}, {1, 4, 4, 7}};
        for (int place = 0; place < 16; place++) {
            due("at(" + place % 4 + ", " + place / 4 + ")", f.at(place % 4, place / 4), rows[place / 4][place % 4]);
        }
    }

    private static void at() {
        Due.sentence("12: NONE: nothing was (DRAWN)");
        HouseFronts f = new HouseFronts();
        int[][] places = {{0, 0}, {1, 1}, {19, 19}, {-1, 0}, {0, -1}, {20, 20}, {MOST, MOST}, {LEAST, LEAST}};
        for (int[] place : places) {
            due("at(" + place[0] + ", " + place[1] + ")", f.at(place[0], place[1]), NONE);
        }
        Due.sentence("12: NONE: it is beyond");
        f.fill(A, 0, 0);
        f.draw(0, 20, 20);
        f.draw(0, 3, 2);
        int[][] beyond = {{3, 0}, {0, 2}, {3, 2}, {-1, 0}, {0, -1}, {-1, -1}, {19, 0}, {0, 19}, {20, 0}, {-20, 1}, {-1, 1}, {1, -1}, {MOST, 0},
                {0, MOST}, {LEAST, 0}, {0, LEAST}};
        for (int[] place : beyond) {
            due("at(" + place[0] + ", " + place[1] + ")", f.at(place[0], place[1]), NONE);
        }
        Due.sentence("12: The LETTER at a place (x, y) of what was DRAWN: the first and the last");
        f.draw(0, 3, 2);
        due("at(0, 0), an a", f.at(0, 0), 0);
        due("at(2, 1)", f.at(2, 1), 0);
        f.draw(0, 20, 20);
        due("at(19, 19)", f.at(19, 19), 0);
        due("at(19, 0)", f.at(19, 0), 0);
        due("at(0, 19)", f.at(0, 19), 0);
        due("at(20, 19)", f.at(20, 19), NONE);
        due("at(19, 20)", f.at(19, 20), NONE);
    }

    private static void step() {
        Due.sentence("13: NONE: there are not so many: nothing was DRAWN");
        HouseFronts f = new HouseFronts();
        for (int i : new int[] {0, 1, -1, LEAST, MOST}) {
            due("step(" + i + ")", f.step(i), NONE);
        }
        Due.sentence("13: NONE: there are not so many");
        f.repeat(A, B, 1, X, 0);
        f.fill(B, 0, 0);
        f.draw(0, 20, 1);
        f.draw(0, 4, 1);
        for (int i : new int[] {5, 6, 20, 8000, -1, LEAST, MOST}) {
            due("step(" + i + ")", f.step(i), NONE);
        }
        Due.sentence("13: RULE number i: the first and the last");
        due("step(0)", f.step(0), 0);
        due("step(4)", f.step(4), 1);
        Due.sentence("13: RULE number i: of some thousands in a front of 20 to 20");
        f.clear();
        f.repeat(A, B, 1, X, 1);
        f.repeat(B, C, 1, Y, 1);
        for (int name = C; name < H; name++) {
            split(f, name, Y, 1, name + 1, 1);
        }
        split(f, H, X, 1, A, 1);
        f.only(7, WIDE, 1, 1);
        f.fill(A, 5, 1);
        f.only(0, WIDE, 2, 20);
        due("1 + 20 + 400 * 7", f.draw(0, 20, 20), 2821);
        due("the last", f.step(2820), 8);
        due("one more", f.step(2821), NONE);
        due("cost", f.drawn(), 2821);
    }

    private static void drawn() {
        Due.sentence("14: NONE: nothing was (DRAWN)");
        HouseFronts f = new HouseFronts();
        due("drawn()", f.drawn(), NONE);
        f.draw(0, 1, 1);
        due("drawn(), a fault", f.drawn(), NONE);
        Due.sentence("14: The COST of what was DRAWN: 0");
        f.fill(A, 0, 0);
        f.draw(0, 1, 1);
        due("drawn()", f.drawn(), 0);
        Due.sentence("14: The COST of what was DRAWN: that of all RULES in it together");
        f.clear();
        f.repeat(A, B, 1, X, 99);
        f.repeat(B, C, 1, Y, 99);
        f.fill(C, 0, 99);
        f.draw(0, 20, 20);
        due("drawn()", f.drawn(), 41679);
        f.clear();
        due("drawn(), cleared", f.drawn(), NONE);
    }

    private static void fault() {
        Due.sentence("15: 0: there was none (no draw())");
        HouseFronts f = new HouseFronts();
        due("fault()", f.fault(), 0);
        due("a draw() that is refused", f.draw(7, 21, 1), OUTSIDE);
        due("fault()", f.fault(), 0);
        Due.sentence("15: The KEY at which the latest draw() had a FAULT");
        f.draw(5, 1, 1);
        due("fault()", f.fault(), 5);
        f.draw(-6, 1, 1);
        due("fault(), a later one", f.fault(), -6);
        due("fault(), asked again", f.fault(), -6);
        Due.sentence("15: the latest draw(): what is refused changes nothing");
        due("draw(), wide 0", f.draw(9, 0, 1), OUTSIDE);
        due("fault()", f.fault(), -6);
        Due.sentence("15: 0: it had none");
        f.fill(A, 0, 0);
        due("draw", f.draw(9, 1, 1), 1);
        due("fault()", f.fault(), 0);
        Due.sentence("15: the latest draw(): no other call makes it another");
        f.only(0, WIDE, 1, 1);
        f.draw(13, 2, 1);
        f.take();
        f.parses();
        f.bestStep(0);
        f.board(2, 2);
        f.clear();
        due("fault()", f.fault(), 13);
    }

    private static void take() {
        Due.sentence("16: STATE: nothing was (DRAWN)");
        HouseFronts f = new HouseFronts();
        due("take()", f.take(), STATE);
        f.fill(B, 0, 0);
        f.draw(0, 1, 1);
        due("take(), a fault", f.take(), STATE);
        f.fill(A, 3, 0);
        f.draw(0, 1, 1);
        due("take()", f.take(), 1);
        f.clear();
        due("take(), cleared", f.take(), STATE);
    }

    private static void takeTooLarge() {
        Due.sentence("16: STATE: it is wider, higher than 9");
        HouseFronts f = new HouseFronts();
        f.fill(A, 3, 0);
        int[][] scopes = {{10, 9}, {9, 10}, {10, 10}, {20, 1}, {1, 20}, {10, 1}, {1, 10}};
        for (int[] scope : scopes) {
            f.draw(0, scope[0], scope[1]);
            due("take() of " + scope[0] + " to " + scope[1], f.take(), STATE);
            due("width", f.count(2), 1);
            due("height", f.count(3), 1);
        }
        Due.sentence("16: THE BOARD becomes what was DRAWN: 9 wide, 9 high");
        int[][] taken = {{9, 9}, {9, 1}, {1, 9}, {1, 1}};
        for (int[] scope : taken) {
            f.draw(0, scope[0], scope[1]);
            due("take() of " + scope[0] + " to " + scope[1], f.take(), 1);
            due("width", f.count(2), scope[0]);
            due("height", f.count(3), scope[1]);
            due("its last letter", f.put(scope[0] - 1 + 9 * (scope[1] - 1), 0), 3);
        }
    }

    private static void takeLetters() {
        Due.sentence("16: THE BOARD becomes what was DRAWN: letter by letter");
        HouseFronts f = new HouseFronts();
        f.repeat(A, B, 1, X, 0);
        f.repeat(B, C, 1, Y, 0);
        for (int letter = 0; letter < 26; letter++) {
            f.fill(C, letter, 0);
        }
        due("draw", f.draw(5, 9, 9), 91);
        due("take", f.take(), 1);
        due("take again: what was DRAWN stays", f.take(), 1);
        for (int place = 0; place < 81; place++) {
            due("place " + place, f.put(place, 0), f.at(place % 9, place / 9));
        }
    }

    private static void drawnAnew() {
        Due.sentence("11: A front is DRAWN: what was DRAWN ahead of it is gone");
        HouseFronts f = new HouseFronts();
        f.repeat(A, B, 1, X, 2);
        f.fill(B, 1, 3);
        due("six", f.draw(0, 5, 4), 6);
        due("two", f.draw(0, 1, 2), 2);
        due("width", f.count(4), 1);
        due("height", f.count(5), 2);
        due("cost", f.drawn(), 5);
        due("no step 2", f.step(2), NONE);
        due("no place (1, 0)", f.at(1, 0), NONE);
        due("no place (0, 2)", f.at(0, 2), NONE);
        Due.sentence("11: what was DRAWN is not of the RULES that come after");
        f.only(0, WIDE, 20, 20);
        f.fill(A, 9, 99);
        f.board(9, 9);
        f.put(0, 25);
        due("cost", f.drawn(), 5);
        due("step 0", f.step(0), 0);
        due("letter", f.at(0, 1), 1);
    }

    private static void nothingLeftOver() {
        Due.sentence("2: The first met .. ends it: the PARTS behind it are not in what is DRAWN next");
        HouseFronts f = new HouseFronts();
        f.repeat(A, B, 1, X, 2);
        f.fill(B, 0, 3);
        f.only(1, HIGH, 2, 2);
        due("a fault at part 0 of 20", f.draw(0, 20, 1), NO_RULE);
        due("three parts", f.draw(0, 3, 2), 4);
        due("cost", f.drawn(), 11);
        due("no step 4", f.step(4), NONE);
        f.draw(0, 20, 1);
        f.board(2, 2);
        due("the best's last, after a fault", f.bestStep(2), 1);
        due("and no more", f.bestStep(3), NONE);
        Due.sentence("23: asked for a RULE ahead of the last: the others are not in what is DRAWN next");
        due("bestStep(0)", f.bestStep(0), 0);
        due("two parts", f.draw(0, 2, 2), 3);
        due("cost", f.drawn(), 8);
        due("no step 3", f.step(3), NONE);
        due("bestStep(1)", f.bestStep(1), 1);
        due("bestStep(2)", f.bestStep(2), 1);
        due("bestStep(3)", f.bestStep(3), NONE);
    }
}
