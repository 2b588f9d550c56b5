/** The document's point 3 and promises 19 to 25: each sentence that names a boundary, with a test of its own. */
public final class BoardEdgesTest {
    private static final int A = 0, B = 1, C = 2, D = 3, E = 4, G = 6, H = 7;
    private static final int UNKNOWN = -1, OUTSIDE = -2, NONE = -9, ENDLESS = -10;
    private static final int LEAST = Integer.MIN_VALUE, MOST_INT = Integer.MAX_VALUE;
    private static final long MOST = 1_000_000_000_000_000_000L;
    private static final boolean X = false, Y = true, WIDE = false, HIGH = true;

    private BoardEdgesTest() {
    }

    public static void main(String[] args) {
        boards();
        boardAllA();
        putAtEdges();
        putBeyond();
        parsesOfNone();
        parsesByLetters();
        parsesMost();
        parsesEndless();
        parsesAnew();
        bestOfNone();
        bestOfCost();
        bestFewest();
        bestByNumberOfTop();
        bestByNumberOfParts();
        bestByNumberInChains();
        bestOfLetters();
        bestCostAheadOfAll();
        bestInCircles();
        bestStepBounds();
        bestLargest();
        standsAtEdges();
        standsBeyond();
        standsAlone();
        standsMost();
        counts();
        Due.end("BoardEdgesTest");
    }

    private static void due(String call, long got, long want) {
        Due.due(call, got, want);
    }

    /** A part is a name and a size, or a share told as a number below 0. */
    private static int split(HouseFronts f, int name, boolean y, int cost, int... parts) {
        for (int i = 0; i + 1 < parts.length; i += 2) {
            f.part(parts[i], Math.abs(parts[i + 1]), parts[i + 1] < 0);
        }
        return f.split(name, y, cost);
    }

    /** The best's rules, and that there are no more of them. */
    private static void bestSteps(HouseFronts f, int... steps) {
        for (int i = 0; i < steps.length; i++) {
            due("bestStep(" + i + ")", f.bestStep(i), steps[i]);
        }
        due("bestStep(" + steps.length + ")", f.bestStep(steps.length), NONE);
    }

    private static void boards() {
        Due.sentence("3: THE BOARD is so wide, so high (1 to 9 each)");
        HouseFronts f = new HouseFronts();
        f.fill(A, 0, 0);
        int[][] sides = {{9, 9}, {1, 9}, {9, 1}, {1, 1}};
        for (int[] side : sides) {
            due("board", f.board(side[0], side[1]), 1);
            due("width", f.count(2), side[0]);
            due("height", f.count(3), side[1]);
            due("the last place", f.put(side[0] - 1 + 9 * (side[1] - 1), 1), 0);
            due("the parses see it", f.parses(), 0);
        }
    }

    private static void boardAllA() {
        Due.sentence("19: THE BOARD is so wide, so high, all a");
        HouseFronts f = new HouseFronts();
        f.fill(A, 0, 6);
        f.board(9, 9);
        for (int place = 0; place < 81; place++) {
            f.put(place, 1 + place % 25);
        }
        due("smaller", f.board(2, 2), 1);
        due("all a", f.parses(), 1);
        due("as large as it was", f.board(9, 9), 1);
        due("all a again", f.parses(), 1);
        for (int place = 0; place < 81; place++) {
            due("place " + place, f.put(place, 3), 0);
        }
        due("the same once more", f.board(9, 9), 1);
        due("all a once more", f.best(), 6);
    }

    private static void putAtEdges() {
        Due.sentence("3: A place of the board is x + 9 y; 20: what was there");
        HouseFronts f = new HouseFronts();
        split(f, A, X, 0, B, -1, C, 1);
        split(f, C, Y, 0, B, -1, D, 1);
        f.fill(B, 0, 0);
        f.fill(D, 25, 0);
        f.board(4, 3);
        due("none yet", f.parses(), 0);
        due("x 3, y 2", f.put(21, 25), 0);
        due("one now", f.parses(), 1);
        due("what was there", f.put(21, 24), 25);
        due("what was there then", f.put(21, 25), 24);
        due("the first place", f.put(0, 25), 0);
        due("none then", f.parses(), 0);
        due("what was there", f.put(0, 0), 25);
        due("one again", f.parses(), 1);
        Due.sentence("20: a LETTER at a place: at no other one");
        f.board(9, 9);
        for (int place = 0; place < 81; place++) {
            due("a at " + place, f.put(place, place % 26), 0);
        }
        for (int place = 0; place < 81; place++) {
            due("what is at " + place, f.put(place, 0), place % 26);
        }
    }

    private static void putBeyond() {
        Due.sentence("20: UNKNOWN: x + 9 y is none");
        HouseFronts f = new HouseFronts();
        for (int place : new int[] {-1, 1, 8, 9, 10, 81, LEAST, MOST_INT}) {
            due("1 to 1, place " + place, f.put(place, 0), UNKNOWN);
        }
        f.board(9, 1);
        due("9 to 1, place 8", f.put(8, 0), 0);
        due("9 to 1, place 9", f.put(9, 0), UNKNOWN);
        f.board(1, 9);
        due("1 to 9, place 72", f.put(72, 0), 0);
        due("1 to 9, place 73", f.put(73, 0), UNKNOWN);
        due("1 to 9, place 81", f.put(81, 0), UNKNOWN);
        due("1 to 9, place -9", f.put(-9, 0), UNKNOWN);
        f.board(9, 9);
        due("9 to 9, place 80", f.put(80, 0), 0);
        due("9 to 9, place 81", f.put(81, 0), UNKNOWN);
        due("9 to 9, place -1", f.put(-1, 0), UNKNOWN);
    }

    private static void parsesOfNone() {
        Due.sentence("21: How many PARSES there are: none");
        HouseFronts f = new HouseFronts();
        due("no rules", f.parses(), 0);
        f.fill(B, 0, 0);
        due("none of A", f.parses(), 0);
        f.fill(A, 1, 0);
        due("another letter", f.parses(), 0);
        f.repeat(A, B, 2, X, 0);
        due("does not fit", f.parses(), 0);
        f.board(2, 1);
        due("fits", f.parses(), 1);
        f.only(2, HIGH, 2, 20);
        due("not for this height", f.parses(), 0);
    }

    private static void parsesByLetters() {
        Due.sentence("3: whose FILLS put its LETTERS to their places: each of them");
        HouseFronts f = new HouseFronts();
        f.fill(A, 4, 0);
        f.board(3, 3);
        int[] places = {0, 1, 2, 9, 10, 11, 18, 19, 20};
        for (int place : places) {
            due("not all are e", f.parses(), 0);
            f.put(place, 4);
        }
        due("all are e", f.parses(), 1);
        for (int place : places) {
            f.put(place, 5);
            due("one is f, at " + place, f.parses(), 0);
            f.put(place, 4);
        }
        due("all are e again", f.parses(), 1);
        Due.sentence("3: whose FILLS put its LETTERS: a and z");
        f.fill(A, 25, 0);
        f.fill(A, 0, 0);
        f.board(1, 1);
        due("a", f.parses(), 1);
        f.put(0, 25);
        due("z", f.parses(), 1);
    }

    private static void parsesMost() {
        Due.sentence("21: (as WAYS): at most 10 to the 18");
        HouseFronts f = new HouseFronts();
        f.repeat(A, B, 1, X, 0);
        f.repeat(B, C, 1, Y, 0);
        for (int i = 0; i < 10; i++) {
            f.fill(C, 0, i);
        }
        f.board(9, 1);
        due("10 to the 9", f.parses(), 1_000_000_000L);
        f.board(8, 2);
        due("10 to the 16", f.parses(), MOST / 100);
        f.board(9, 2);
        due("10 to the 18", f.parses(), MOST);
        f.board(4, 5);
        due("10 to the 20", f.parses(), MOST);
        f.board(9, 9);
        due("10 to the 81", f.parses(), MOST);
        due("the best of them", f.best(), 0);
        due("its last rule", f.bestStep(90), 2);
        f.put(80, 1);
        due("but none with a b", f.parses(), 0);
    }

    private static void parsesEndless() {
        Due.sentence("21: (as WAYS): ENDLESS");
        HouseFronts f = new HouseFronts();
        split(f, A, X, 0, B, -1);
        split(f, B, Y, 0, A, -1);
        due("no end", f.parses(), 0);
        f.fill(B, 2, 0);
        due("no end for an a", f.parses(), 0);
        due("but without letters", f.ways(A, 1, 1), ENDLESS);
        f.put(0, 2);
        due("endless", f.parses(), ENDLESS);
        f.only(0, WIDE, 2, 20);
        due("not for this width", f.parses(), 0);
        f.fill(A, 2, 0);
        due("one", f.parses(), 1);
        due("B by way of A, and itself", f.stands(B, 0, 1, 1), 2);
    }

    private static void parsesAnew() {
        Due.sentence("21: PARSES: as THE BOARD and the RULES are when it is asked");
        HouseFronts f = new HouseFronts();
        due("none", f.parses(), 0);
        f.fill(A, 0, 3);
        due("after a fill", f.parses(), 1);
        f.fill(B, 0, 0);
        due("after a fill of B", f.parses(), 1);
        f.repeat(A, B, 1, X, 0);
        due("after a repeat of B", f.parses(), 2);
        f.part(B, 1, true);
        f.split(A, Y, 0);
        due("after a split", f.parses(), 3);
        f.only(0, HIGH, 2, 2);
        due("after an only", f.parses(), 2);
        f.put(0, 1);
        due("after a put", f.parses(), 0);
        f.put(0, 0);
        due("after another put", f.parses(), 2);
        f.board(1, 2);
        due("after a board", f.parses(), 3);
        f.draw(0, 1, 1);
        due("after a draw", f.parses(), 3);
        f.take();
        due("after a take", f.parses(), 2);
        f.put(0, 1);
        due("with a b", f.parses(), 0);
        f.take();
        due("after a take of as many places", f.parses(), 2);
        f.put(0, 1);
        due("with a b again", f.best(), NONE);
        f.board(1, 1);
        due("after a board of as many places", f.parses(), 2);
        f.clear();
        due("after a clear", f.parses(), 0);
    }

    private static void bestOfNone() {
        Due.sentence("22: NONE: there is no PARSE; 23: NONE");
        HouseFronts f = new HouseFronts();
        due("no rules", f.best(), NONE);
        bestSteps(f);
        f.fill(A, 1, 0);
        due("another letter", f.best(), NONE);
        bestSteps(f);
        split(f, A, X, 0, A, -1);
        due("a circle", f.best(), NONE);
        bestSteps(f);
    }

    private static void bestOfCost() {
        Due.sentence("22: The COST of the BEST: 0");
        HouseFronts f = new HouseFronts();
        f.fill(A, 0, 0);
        due("best", f.best(), 0);
        bestSteps(f, 0);
        Due.sentence("3: The BEST has the least COST");
        f.clear();
        f.fill(A, 0, 9);
        f.fill(A, 0, 8);
        f.fill(A, 0, 10);
        f.fill(A, 1, 7);
        due("best", f.best(), 8);
        bestSteps(f, 1);
    }

    private static void bestFewest() {
        Due.sentence("3: of like ones the fewest RULES");
        HouseFronts f = new HouseFronts();
        split(f, A, X, 0, B, -1);
        split(f, B, X, 0, C, -1);
        f.fill(C, 0, 5);
        split(f, A, Y, 0, C, -1);
        due("best", f.best(), 5);
        bestSteps(f, 3, 2);
        f.fill(A, 0, 5);
        bestSteps(f, 4);
        f.only(4, WIDE, 2, 2);
        f.only(3, WIDE, 2, 2);
        bestSteps(f, 0, 1, 2);
        Due.sentence("3: the fewest RULES: all below count, not the top's PARTS");
        f.clear();
        f.board(3, 1);
        split(f, A, X, 0, B, 2, D, 1);
        split(f, B, X, 0, D, 1, D, 1);
        f.fill(D, 0, 0);
        f.repeat(A, D, 1, X, 0);
        bestSteps(f, 3, 2, 2, 2);
    }

    private static void bestByNumberOfTop() {
        Due.sentence("3: of like ones the first by RULES' numbers");
        HouseFronts f = new HouseFronts();
        f.fill(A, 1, 0);
        f.fill(A, 0, 0);
        f.fill(A, 0, 0);
        bestSteps(f, 1);
        Due.sentence("3: (each place's RULE ahead of those of its PARTS)");
        f.clear();
        f.fill(C, 0, 0);
        split(f, A, X, 0, B, -1);
        split(f, A, Y, 0, C, -1);
        f.fill(B, 0, 0);
        bestSteps(f, 1, 3);
        f.only(1, WIDE, 2, 2);
        bestSteps(f, 2, 0);
        Due.sentence("3: of like ones the first by RULES' numbers: 9 ahead of 10");
        f.clear();
        for (int r = 0; r < 9; r++) {
            f.fill(H, 0, 0);
        }
        f.fill(A, 0, 0);
        f.fill(A, 0, 0);
        bestSteps(f, 9);
    }

    private static void bestByNumberOfParts() {
        Due.sentence("3: (each place's RULE ahead .., PARTS in order)");
        HouseFronts f = new HouseFronts();
        f.board(2, 1);
        split(f, A, X, 0, B, 1, C, 1);
        f.fill(C, 0, 3);
        f.fill(C, 0, 2);
        f.fill(B, 0, 2);
        f.fill(B, 0, 2);
        f.fill(B, 0, 3);
        f.fill(C, 0, 2);
        due("best", f.best(), 4);
        bestSteps(f, 0, 3, 2);
        f.only(3, WIDE, 2, 2);
        bestSteps(f, 0, 4, 2);
        Due.sentence("3: read from the top: all below PART 0 ahead of PART 1");
        f.clear();
        f.board(3, 2);
        split(f, A, X, 1, B, 2, C, 1);
        split(f, B, Y, 1, C, 1, C, 1);
        f.repeat(B, D, 1, X, 1);
        f.fill(C, 0, 1);
        f.fill(D, 0, 1);
        due("best", f.best(), 5);
        bestSteps(f, 0, 1, 3, 3, 3);
        f.only(1, HIGH, 1, 1);
        bestSteps(f, 0, 2, 4, 4, 3);
    }

    private static void bestByNumberInChains() {
        Due.sentence("3: the first by RULES' numbers, where a PART is as long as the whole");
        HouseFronts f = new HouseFronts();
        split(f, A, X, 1, B, -1);
        split(f, A, X, 1, C, -1);
        f.fill(C, 0, 1);
        split(f, B, Y, 0, D, -1);
        f.fill(D, 0, 1);
        // 0, 3, 4 costs 2 as 1, 2 does, with one more rule
        due("best", f.best(), 2);
        bestSteps(f, 1, 2);
        f.fill(B, 0, 1);
        bestSteps(f, 0, 5);
        f.fill(B, 0, 1);
        bestSteps(f, 0, 5);
        Due.sentence("3: the first by RULES' numbers: a RULE with one PART, a RULE with two, as many RULES in all");
        f.clear();
        f.board(2, 1);
        split(f, A, X, 0, E, -1);
        split(f, A, X, 0, H, 1, H, 1);
        split(f, E, X, 0, G, -1);
        f.fill(G, 0, 0);
        f.fill(H, 0, 0);
        bestSteps(f, 0, 2, 3);
        f.clear();
        split(f, A, X, 0, H, 1, H, 1);
        split(f, A, X, 0, E, -1);
        split(f, E, X, 0, G, -1);
        f.fill(G, 0, 0);
        f.fill(H, 0, 0);
        bestSteps(f, 0, 4, 4);
    }

    private static void bestOfLetters() {
        Due.sentence("23: RULE number i of the BEST: of a PARSE whose FILLS put the LETTERS to their places");
        HouseFronts f = new HouseFronts();
        f.repeat(A, B, 1, Y, 0);
        f.repeat(B, C, 1, X, 0);
        for (int letter = 0; letter < 6; letter++) {
            f.fill(C, letter, letter);
        }
        f.board(3, 2);
        int[] letters = {5, 3, 1, 0, 2, 4};
        for (int i = 0; i < 6; i++) {
            f.put(i % 3 + 9 * (i / 3), letters[i]);
        }
        due("best", f.best(), 15);
        bestSteps(f, 0, 1, 7, 5, 3, 1, 2, 4, 6);
        Due.sentence("23: the same from PARTS along x, then along y, then along x");
        f.clear();
        split(f, A, X, 1, B, 1, C, -1);
        split(f, C, Y, 1, D, 1, E, 1);
        split(f, D, X, 1, G, 1, H, 1);
        for (int letter = 0; letter < 6; letter++) {
            f.fill(B, letter, 0);
            f.fill(G, letter, 0);
            f.fill(H, letter, 0);
        }
        f.fill(E, 2, 0);
        f.put(9, 5);
        f.put(10, 2);
        f.put(11, 2);
        due("best", f.best(), 3);
        bestSteps(f, 0, 18, 1, 2, 13, 8, 21);
    }

    private static void bestCostAheadOfAll() {
        Due.sentence("3: The BEST has the least COST: ahead of the fewest RULES");
        HouseFronts f = new HouseFronts();
        f.board(9, 9);
        f.fill(A, 0, 2);
        f.repeat(A, B, 1, X, 1);
        f.repeat(B, C, 1, Y, 0);
        f.fill(C, 0, 0);
        due("91 rules for 1", f.best(), 1);
        due("the top", f.bestStep(0), 1);
        due("the last", f.bestStep(90), 3);
        due("one more", f.bestStep(91), NONE);
        f.fill(A, 0, 1);
        bestSteps(f, 4);
    }

    private static void bestInCircles() {
        Due.sentence("3: The BEST of PARSES that are ENDLESS");
        HouseFronts f = new HouseFronts();
        split(f, A, X, 0, A, -1);
        split(f, A, Y, 0, B, -1);
        split(f, B, Y, 0, A, -1);
        f.fill(B, 0, 0);
        due("parses", f.parses(), ENDLESS);
        due("best", f.best(), 0);
        bestSteps(f, 1, 3);
        f.fill(A, 0, 0);
        bestSteps(f, 4);
        f.only(3, WIDE, 2, 2);
        due("B by way of A", f.stands(B, 0, 1, 1), ENDLESS);
        bestSteps(f, 4);
    }

    private static void bestStepBounds() {
        Due.sentence("23: RULE number i of the BEST; NONE: i is too small, too large");
        HouseFronts f = new HouseFronts();
        f.board(3, 1);
        f.repeat(A, B, 1, X, 1);
        f.fill(B, 0, 1);
        for (int i : new int[] {-1, 4, 5, 512, LEAST, MOST_INT}) {
            due("bestStep(" + i + ")", f.bestStep(i), NONE);
        }
        bestSteps(f, 0, 1, 1, 1);
        Due.sentence("23: RULE number i of the BEST: without best() ahead of it");
        f.put(2, 1);
        due("no parse", f.bestStep(0), NONE);
        f.put(2, 0);
        due("one", f.bestStep(3), 1);
        f.board(1, 1);
        bestSteps(f, 0, 1);
    }

    private static void bestLargest() {
        Due.sentence("22: The COST of the BEST: as large as it can be");
        HouseFronts f = new HouseFronts();
        f.board(9, 9);
        f.repeat(A, B, 1, X, 99);
        f.repeat(B, C, 1, Y, 99);
        for (int name = C; name < H; name++) {
            split(f, name, X, 99, name + 1, -1);
        }
        f.fill(H, 0, 99);
        due("99 * (10 + 6 * 81)", f.best(), 49104);
        due("the last", f.bestStep(495), 7);
        due("one more", f.bestStep(496), NONE);
        due("one parse", f.parses(), 1);
    }

    private static void standsAtEdges() {
        Due.sentence("24: the part of THE BOARD from a place on, so wide, so high: at its edges");
        HouseFronts f = new HouseFronts();
        f.fill(H, 3, 0);
        f.board(9, 9);
        for (int place : new int[] {0, 8, 72, 80, 40}) {
            due("another letter at " + place, f.stands(H, place, 1, 1), 0);
            f.put(place, 3);
            due("its letter at " + place, f.stands(H, place, 1, 1), 1);
        }
        due("two wide", f.stands(H, 39, 2, 1), 0);
        f.put(39, 3);
        due("two wide, both are", f.stands(H, 39, 2, 1), 1);
        due("from the second on", f.stands(H, 40, 2, 1), 0);
        due("two high", f.stands(H, 31, 1, 2), 0);
        f.put(31, 3);
        due("two high, both are", f.stands(H, 31, 1, 2), 1);
        for (int place = 0; place < 81; place++) {
            f.put(place, 3);
        }
        due("all of it", f.stands(H, 0, 9, 9), 1);
        due("all but the first row and column", f.stands(H, 10, 8, 8), 1);
        due("the last row", f.stands(H, 72, 9, 1), 1);
        due("the last column", f.stands(H, 8, 1, 9), 1);
        f.put(8, 4);
        due("the last column, but for one", f.stands(H, 8, 1, 9), 0);
        due("the last column above it", f.stands(H, 17, 1, 8), 1);
    }

    private static void standsBeyond() {
        Due.sentence("24: OUTSIDE: it is not within THE BOARD");
        HouseFronts f = new HouseFronts();
        f.board(9, 9);
        int[][] parts = {{0, 10, 1}, {0, 1, 10}, {80, 2, 1}, {80, 1, 2}, {1, 9, 1}, {9, 1, 9}, {0, 0, 1}, {0, 1, 0}, {0, -1, 1},
                {8, MOST_INT, 1}, {72, 1, MOST_INT}, {0, LEAST, 1}, {0, 1, LEAST}};
        for (int[] part : parts) {
            due("stands at " + part[0] + ", " + part[1] + " to " + part[2], f.stands(A, part[0], part[1], part[2]), OUTSIDE);
        }
        f.board(4, 2);
        due("within", f.stands(A, 0, 4, 2), 0);
        due("one too wide", f.stands(A, 0, 5, 2), OUTSIDE);
        due("one too high", f.stands(A, 0, 4, 3), OUTSIDE);
        due("within, from the last place on", f.stands(A, 12, 1, 1), 0);
        due("too wide from there", f.stands(A, 12, 2, 1), OUTSIDE);
        due("too high from there", f.stands(A, 12, 1, 2), OUTSIDE);
        Due.sentence("24: UNKNOWN: place");
        for (int place : new int[] {4, 8, 13, 18, 81, -1, LEAST, MOST_INT}) {
            due("place " + place, f.stands(A, place, 1, 1), UNKNOWN);
        }
    }

    private static void standsAlone() {
        Due.sentence("24: WAYS in which a NAME alone stands: as longs, ENDLESS too");
        HouseFronts f = new HouseFronts();
        f.board(3, 2);
        f.fill(B, 0, 0);
        f.fill(B, 0, 0);
        split(f, C, X, 0, B, 1, B, -1);
        due("B", f.stands(B, 0, 3, 2), 2);
        due("C", f.stands(C, 0, 3, 2), 4);
        due("C on 1 wide", f.stands(C, 0, 1, 2), 0);
        due("A has no rules", f.stands(A, 0, 3, 2), 0);
        split(f, B, X, 0, C, -1);
        split(f, C, X, 0, B, -1);
        due("B in a circle with C", f.stands(B, 0, 3, 2), ENDLESS);
        due("C by a part that is so", f.stands(C, 0, 2, 1), ENDLESS);
        f.only(4, WIDE, 2, 2);
        due("B on 1 wide, no circle", f.stands(B, 2, 1, 1), 2);
        f.put(0, 1);
        due("a letter that is not theirs", f.stands(B, 0, 2, 1), 0);
        due("beside it", f.stands(B, 1, 2, 1), ENDLESS);
    }

    private static void standsMost() {
        Due.sentence("24: WAYS .. (at most 10 to the 18)");
        HouseFronts f = new HouseFronts();
        f.board(9, 9);
        f.repeat(E, D, 1, Y, 0);
        f.repeat(D, C, 1, X, 0);
        for (int i = 0; i < 10; i++) {
            f.fill(C, 0, 0);
        }
        due("10 to the 9", f.stands(D, 72, 9, 1), 1_000_000_000L);
        due("10 to the 18", f.stands(E, 63, 9, 2), MOST);
        due("10 to the 16", f.stands(E, 64, 8, 2), MOST / 100);
        due("10 to the 81", f.stands(E, 0, 9, 9), MOST);
        f.put(40, 1);
        due("none with a b", f.stands(E, 0, 9, 9), 0);
        due("those below it", f.stands(E, 0, 9, 2), MOST);
    }

    private static void counts() {
        Due.sentence("25: 0 RULES, .. : none, and as many as there can be");
        HouseFronts f = new HouseFronts();
        int[] least = {0, 0, 1, 1, 0, 0};
        for (int what = 0; what < 6; what++) {
            due("count(" + what + ")", f.count(what), least[what]);
        }
        for (int r = 0; r < 41; r++) {
            f.fill(A, 0, 0);
        }
        for (int i = 0; i < 7; i++) {
            f.part(A, 1, true);
        }
        f.board(9, 8);
        f.draw(0, 20, 19);
        int[] most = {40, 6, 9, 8, 20, 19};
        for (int what = 0; what < 6; what++) {
            due("count(" + what + ")", f.count(what), most[what]);
        }
        Due.sentence("25: 4 width, 5 height of what was DRAWN (0: nothing)");
        f.clear();
        due("count(4)", f.count(4), 0);
        due("count(5)", f.count(5), 0);
        f.draw(0, 3, 3);
        due("count(4), a fault", f.count(4), 0);
        due("count(5), a fault", f.count(5), 0);
    }
}
