/** For each promise ordinary inputs, the edges that the document names, and wrong inputs, worked out by hand. */
public final class PromisesTest {
    private static final int A = 0, B = 1, C = 2, H = 7;
    private static final int UNKNOWN = -1, OUTSIDE = -2, STATE = -3, FULL = -4, NONE = -9, ENDLESS = -10;
    private static final long MOST = 1_000_000_000_000_000_000L;
    private static final boolean X = false, Y = true, WIDE = false, HIGH = true, SIZE = false, SHARE = true;

    private PromisesTest() {
    }

    public static void main(String[] args) {
        constants();
        newObject();
        fill();
        part();
        split();
        repeat();
        only();
        clear();
        rule();
        holds();
        pieceOfSplit();
        pieceOfRepeat();
        drawOfOne();
        drawChooses();
        drawKeys();
        drawFaults();
        drawDeep();
        drawMost();
        at();
        stepAndDrawn();
        fault();
        take();
        ways();
        waysMost();
        waysJustBelowMost();
        waysEndless();
        least();
        board();
        put();
        parses();
        best();
        bestOfLikeOnes();
        bestByNumber();
        bestInCircles();
        stands();
        count();
        Due.end("PromisesTest");
    }

    private static void due(String call, long got, long want) {
        Due.due(call, got, want);
    }

    private static int split(HouseFronts f, int name, boolean y, int cost, int... parts) {
        for (int i = 0; i + 1 < parts.length; i += 2) {
            f.part(parts[i], Math.abs(parts[i + 1]), parts[i + 1] < 0);
        }
        return f.split(name, y, cost);
    }

    private static void constants() {
        due("UNKNOWN", HouseFronts.UNKNOWN, -1);
        due("OUTSIDE", HouseFronts.OUTSIDE, -2);
        due("STATE", HouseFronts.STATE, -3);
        due("FULL", HouseFronts.FULL, -4);
        due("NONE", HouseFronts.NONE, -9);
        due("ENDLESS", HouseFronts.ENDLESS, -10);
    }

    private static void newObject() {
        HouseFronts f = new HouseFronts();
        int[] counts = {0, 0, 1, 1, 0, 0};
        for (int what = 0; what < counts.length; what++) {
            due("1: count(" + what + ")", f.count(what), counts[what]);
        }
        due("1: parses()", f.parses(), 0);
        due("1: best()", f.best(), NONE);
        due("1: bestStep(0)", f.bestStep(0), NONE);
        due("1: drawn()", f.drawn(), NONE);
        due("1: fault()", f.fault(), 0);
        due("1: at(0, 0)", f.at(0, 0), NONE);
        due("1: step(0)", f.step(0), NONE);
        due("1: take()", f.take(), STATE);
        due("1: ways(0, 1, 1)", f.ways(A, 1, 1), 0);
        due("1: least(0, 1, 1)", f.least(A, 1, 1), NONE);
        due("1: put(0, 0), the board is a", f.put(0, 0), 0);
    }

    private static void fill() {
        HouseFronts f = new HouseFronts();
        due("2: fill", f.fill(A, 25, 99), 0);
        due("2: fill, the next", f.fill(H, 0, 0), 1);
        due("2: letter of it", f.rule(0, 4), 25);
        due("2: cost of it", f.rule(0, 2), 99);
        due("2: name 8", f.fill(8, 0, 0), UNKNOWN);
        due("2: name -1", f.fill(-1, 0, 0), UNKNOWN);
        due("2: unknown ahead of outside", f.fill(8, 26, 100), UNKNOWN);
        due("2: letter 26", f.fill(A, 26, 0), OUTSIDE);
        due("2: letter -1", f.fill(A, -1, 0), OUTSIDE);
        due("2: cost 100", f.fill(A, 0, 100), OUTSIDE);
        due("2: cost -1", f.fill(A, 0, -1), OUTSIDE);
        due("2: refused ones change nothing", f.count(0), 2);
        for (int r = 2; r < 40; r++) {
            due("2: fill " + r, f.fill(r % 8, 0, 0), r);
        }
        due("2: the 41st", f.fill(A, 0, 0), FULL);
        due("2: outside ahead of full", f.fill(A, 0, 100), OUTSIDE);
        due("2: unknown ahead of full", f.fill(8, 0, 0), UNKNOWN);
        due("2: 40 rules", f.count(0), 40);
        due("2: new ones after clear", f.clear() + f.fill(A, 0, 0), 40);
    }

    private static void part() {
        HouseFronts f = new HouseFronts();
        due("3: name 8", f.part(8, 1, SIZE), UNKNOWN);
        due("3: name -1, v 0", f.part(-1, 0, SIZE), UNKNOWN);
        due("3: size 0", f.part(A, 0, SIZE), OUTSIDE);
        due("3: size 21", f.part(A, 21, SIZE), OUTSIDE);
        due("3: share 0", f.part(A, 0, SHARE), OUTSIDE);
        due("3: share 10", f.part(A, 10, SHARE), OUTSIDE);
        due("3: nothing collected", f.count(1), 0);
        due("3: size 20", f.part(H, 20, SIZE), 1);
        due("3: share 9", f.part(A, 9, SHARE), 2);
        due("3: size 10", f.part(A, 10, SIZE), 3);
        due("3: size 1", f.part(A, 1, SIZE), 4);
        due("3: share 1", f.part(A, 1, SHARE), 5);
        due("3: the sixth", f.part(A, 1, SHARE), 6);
        due("3: the seventh", f.part(A, 1, SHARE), FULL);
        due("3: outside ahead of full", f.part(A, 21, SIZE), OUTSIDE);
        due("3: unknown ahead of full", f.part(9, 1, SIZE), UNKNOWN);
        due("3: six are collected", f.count(1), 6);
        f.split(A, X, 0);
        due("3: anew after a split", f.part(A, 1, SHARE), 1);
        for (int r = 1; r < 40; r++) {
            f.fill(A, 0, 0);
        }
        due("3: parts are collected though the rules are full", f.part(A, 1, SHARE), 2);
    }

    private static void split() {
        HouseFronts f = new HouseFronts();
        due("4: none is collected", f.split(A, X, 0), STATE);
        due("4: outside ahead of state", f.split(A, X, 100), OUTSIDE);
        due("4: unknown ahead of outside", f.split(8, X, 100), UNKNOWN);
        f.part(B, 2, SIZE);
        f.part(C, 1, SHARE);
        due("4: name -1", f.split(-1, X, 0), UNKNOWN);
        due("4: cost -1", f.split(A, X, -1), OUTSIDE);
        due("4: the parts are still collected", f.count(1), 2);
        due("4: split along x", f.split(A, X, 7), 0);
        due("4: none is collected then", f.count(1), 0);
        due("4: nor another time", f.split(A, X, 7), STATE);
        due("4: kind along x", f.rule(0, 1), 1);
        due("4: parts", f.rule(0, 3), 2);
        f.part(B, 1, SHARE);
        due("4: split along y", f.split(H, Y, 99), 1);
        due("4: kind along y", f.rule(1, 1), 2);
        due("4: its parts are its own", f.rule(1, 3), 1);
        due("4: along x, part 1 begins", f.piece(0, 5, 1, 1, false), 2);
        due("4: along y, part 0 is long", f.piece(1, 1, 6, 0, true), 6);
        for (int r = 2; r < 40; r++) {
            f.fill(A, 0, 0);
        }
        due("4: state ahead of full", f.split(A, X, 0), STATE);
        f.part(A, 1, SHARE);
        due("4: full", f.split(A, X, 0), FULL);
        due("4: the part is still collected", f.count(1), 1);
    }

    private static void repeat() {
        HouseFronts f = new HouseFronts();
        due("5: name 8", f.repeat(8, A, 1, X, 0), UNKNOWN);
        due("5: of 8", f.repeat(A, 8, 0, X, 0), UNKNOWN);
        due("5: of -1", f.repeat(A, -1, 1, X, 0), UNKNOWN);
        due("5: size 0", f.repeat(A, B, 0, X, 0), OUTSIDE);
        due("5: size 21", f.repeat(A, B, 21, X, 0), OUTSIDE);
        due("5: cost 100", f.repeat(A, B, 1, X, 100), OUTSIDE);
        due("5: cost -1", f.repeat(A, B, 1, X, -1), OUTSIDE);
        f.part(C, 3, SIZE);
        due("5: along x", f.repeat(A, B, 20, X, 5), 0);
        due("5: along y", f.repeat(H, H, 1, Y, 0), 1);
        due("5: what is collected stays", f.count(1), 1);
        due("5: kind along x", f.rule(0, 1), 3);
        due("5: kind along y", f.rule(1, 1), 4);
        due("5: cost", f.rule(0, 2), 5);
        for (int r = 2; r < 40; r++) {
            f.repeat(A, B, 1, X, 0);
        }
        due("5: full", f.repeat(A, B, 1, X, 0), FULL);
        due("5: outside ahead of full", f.repeat(A, B, 0, X, 0), OUTSIDE);
        f.clear();
        f.fill(B, 0, 0);
        due("5: no ways yet", f.ways(A, 2, 2) + f.stands(A, 0, 1, 1), 0);
        f.repeat(A, B, 1, X, 0);
        due("5: one way now", f.ways(A, 2, 2), 1);
        due("5: and one on the board", f.stands(A, 0, 1, 1), 1);
    }

    private static void only() {
        HouseFronts f = new HouseFronts();
        due("6: no rule", f.only(0, WIDE, 1, 20), UNKNOWN);
        f.fill(A, 0, 0);
        due("6: rule -1", f.only(-1, WIDE, 0, 0), UNKNOWN);
        due("6: rule 1", f.only(1, WIDE, 1, 1), UNKNOWN);
        due("6: from 0", f.only(0, WIDE, 0, 5), OUTSIDE);
        due("6: to 21", f.only(0, HIGH, 5, 21), OUTSIDE);
        due("6: from beyond to", f.only(0, HIGH, 6, 5), OUTSIDE);
        due("6: holds for all yet, low", f.holds(0, 1, 1), 1);
        due("6: holds for all yet, high", f.holds(0, 20, 20), 1);
        due("6: widths 3 .. 5", f.only(0, WIDE, 3, 5), 1);
        due("6: 2 wide", f.holds(0, 2, 20), 0);
        due("6: 3 wide", f.holds(0, 3, 20), 1);
        due("6: 5 wide", f.holds(0, 5, 1), 1);
        due("6: 6 wide", f.holds(0, 6, 1), 0);
        due("6: heights 7 .. 7 too", f.only(0, HIGH, 7, 7), 1);
        due("6: 4 wide, 7 high", f.holds(0, 4, 7), 1);
        due("6: 4 wide, 8 high", f.holds(0, 4, 8), 0);
        due("6: 4 wide, 6 high", f.holds(0, 4, 6), 0);
        due("6: 6 wide, 7 high", f.holds(0, 6, 7), 0);
        due("6: ways follow", f.ways(A, 4, 7), 1);
        due("6: ways follow, where it does not hold", f.ways(A, 4, 8), 0);
        due("6: widths anew", f.only(0, WIDE, 1, 20), 1);
        due("6: ways follow anew", f.ways(A, 20, 7), 1);
        f.clear();
        f.fill(A, 0, 0);
        due("6: a new rule of an old number holds for all", f.holds(0, 20, 20), 1);
    }

    private static void clear() {
        HouseFronts f = new HouseFronts();
        due("7: nothing yet", f.clear(), 0);
        f.fill(A, 3, 5);
        f.fill(B, 4, 5);
        f.part(A, 1, SHARE);
        f.draw(8, 2, 3);
        f.take();
        f.draw(8, 4, 4);
        f.only(0, WIDE, 1, 4);
        f.draw(77, 5, 4);
        due("7: ways yet", f.ways(A, 2, 3), 1);
        due("7: a best yet", f.best(), 5);
        due("7: two rules", f.clear(), 2);
        due("7: no rules", f.count(0), 0);
        due("7: no parts", f.count(1), 0);
        due("7: nothing is drawn, wide", f.count(4), 0);
        due("7: nothing is drawn, high", f.count(5), 0);
        due("7: no cost", f.drawn(), NONE);
        due("7: no letter", f.at(0, 0), NONE);
        due("7: no step", f.step(0), NONE);
        due("7: nothing to take", f.take(), STATE);
        due("7: the board stays, wide", f.count(2), 2);
        due("7: the board stays, high", f.count(3), 3);
        due("7: the latest draw() had its fault", f.fault(), 77);
        due("7: no parses", f.parses(), 0);
        due("7: no best", f.best(), NONE);
        due("7: no ways", f.ways(A, 2, 3), 0);
        due("7: the board's letters stay", f.put(0, 0), 3);
        due("7: rules from 0 on", f.fill(A, 0, 0), 0);
    }

    private static void rule() {
        HouseFronts f = new HouseFronts();
        due("8: no rule", f.rule(0, 0), UNKNOWN);
        due("8: no rule, no what", f.rule(0, 9), UNKNOWN);
        f.fill(C, 13, 42);
        split(f, B, X, 1, A, 1, A, -1, B, 2, C, -9);
        f.repeat(H, C, 4, Y, 3);
        int[][] want = {{C, 0, 42, 0, 13}, {B, 1, 1, 4, NONE}, {H, 4, 3, 1, NONE}};
        for (int r = 0; r < want.length; r++) {
            for (int what = 0; what < 5; what++) {
                due("8: rule(" + r + ", " + what + ")", f.rule(r, what), want[r][what]);
            }
        }
        due("8: what 5", f.rule(0, 5), OUTSIDE);
        due("8: what -1", f.rule(0, -1), OUTSIDE);
        due("8: rule 3", f.rule(3, 0), UNKNOWN);
        due("8: rule -1", f.rule(-1, 0), UNKNOWN);
        f.clear();
        split(f, A, X, 0, B, -1);
        due("8: a letter that the number had is gone", f.rule(0, 4), NONE);
    }

    private static void holds() {
        HouseFronts f = new HouseFronts();
        due("9: no rule", f.holds(0, 0, 0), UNKNOWN);
        f.fill(A, 0, 0);
        due("9: wide 0", f.holds(0, 0, 1), OUTSIDE);
        due("9: wide 21", f.holds(0, 21, 1), OUTSIDE);
        due("9: high 0", f.holds(0, 1, 0), OUTSIDE);
        due("9: high 21", f.holds(0, 1, 21), OUTSIDE);
        due("9: a fill holds", f.holds(0, 1, 20), 1);
        int sizes = split(f, A, X, 0, A, 2, A, 3);
        due("9: sizes leave nothing", f.holds(sizes, 5, 1), 1);
        due("9: sizes leave one", f.holds(sizes, 6, 1), 0);
        due("9: sizes lack one", f.holds(sizes, 4, 1), 0);
        due("9: sizes, the other axis is free", f.holds(sizes, 5, 20), 1);
        int mixed = split(f, A, Y, 0, A, 2, A, -1, A, 3);
        due("9: one is left for a share", f.holds(mixed, 1, 6), 1);
        due("9: nothing is left for a share", f.holds(mixed, 1, 5), 0);
        due("9: less than nothing is left", f.holds(mixed, 1, 4), 0);
        due("9: much is left", f.holds(mixed, 1, 20), 1);
        int shares = split(f, A, X, 0, A, -9, A, -1, A, -1);
        // of 4: 36/11, 4/11, 4/11 cut are 3, 0, 0; the one over goes to the first part
        due("9: a share gets nothing", f.holds(shares, 4, 1), 0);
        // of 3: 2, 0, 0 and one over: 3, 0, 0
        due("9: a share gets nothing of 3", f.holds(shares, 3, 1), 0);
        // of 11: 9, 1, 1
        due("9: all shares get some", f.holds(shares, 11, 1), 1);
        // of 10: 90/11, 10/11, 10/11 cut are 8, 0, 0; two over: 9, 1, 0
        due("9: what is over does not reach the last", f.holds(shares, 10, 1), 0);
        int repeat = f.repeat(A, A, 3, X, 0);
        due("9: a repeat goes into it once", f.holds(repeat, 3, 1), 1);
        due("9: a repeat goes into it not once", f.holds(repeat, 2, 20), 0);
        due("9: a repeat with some over", f.holds(repeat, 5, 1), 1);
        int upright = f.repeat(A, A, 20, Y, 0);
        due("9: a repeat along y", f.holds(upright, 1, 20), 1);
        due("9: a repeat along y, too low", f.holds(upright, 20, 19), 0);
        due("9: rule -1", f.holds(-1, 1, 1), UNKNOWN);
    }

    private static void pieceOfSplit() {
        HouseFronts f = new HouseFronts();
        due("10: no rule", f.piece(0, 0, 0, 0, true), UNKNOWN);
        int fill = f.fill(A, 0, 0);
        due("10: a fill has no part", f.piece(fill, 3, 3, 0, true), NONE);
        int r = split(f, A, X, 0, A, -2, B, 3, C, -1, A, -2);
        due("10: wide 21", f.piece(r, 21, 1, 0, true), OUTSIDE);
        due("10: high 0", f.piece(r, 1, 0, 0, true), OUTSIDE);
        due("10: does not hold", f.piece(r, 4, 1, 0, true), STATE);
        due("10: state ahead of none", f.piece(r, 4, 1, 9, true), STATE);
        // 12 - 3 = 9: 18/5, 9/5, 18/5 cut are 3, 1, 3; two are over: 4, 2, 3
        int[] lengths = {4, 3, 2, 3};
        int[] begins = {0, 4, 7, 9};
        for (int i = 0; i < 4; i++) {
            due("10: length of " + i, f.piece(r, 12, 1, i, true), lengths[i]);
            due("10: begin of " + i, f.piece(r, 12, 20, i, false), begins[i]);
        }
        due("10: no part 4", f.piece(r, 12, 1, 4, true), NONE);
        due("10: no part -1", f.piece(r, 12, 1, -1, false), NONE);
        due("10: no part beyond all", f.piece(r, 12, 1, Integer.MAX_VALUE, false), NONE);
        f.only(r, WIDE, 1, 11);
        due("10: not for this width", f.piece(r, 12, 1, 0, true), STATE);
    }

    private static void pieceOfRepeat() {
        HouseFronts f = new HouseFronts();
        int r = f.repeat(A, B, 4, Y, 0);
        // 19 is 4 times 4 and 3 over
        int[] lengths = {5, 5, 5, 4};
        int[] begins = {0, 5, 10, 15};
        for (int i = 0; i < 4; i++) {
            due("10: length of repeat " + i, f.piece(r, 1, 19, i, true), lengths[i]);
            due("10: begin of repeat " + i, f.piece(r, 1, 19, i, false), begins[i]);
        }
        due("10: no repeat 4", f.piece(r, 1, 19, 4, true), NONE);
        due("10: too low", f.piece(r, 19, 3, 0, true), STATE);
        // 7 is once 4 and 3 over, that all go to the one
        due("10: one gets all", f.piece(r, 1, 7, 0, true), 7);
        // 11 is twice 4 and 3 over: two to the first, again from it, and one to the second
        due("10: again from the first", f.piece(r, 1, 11, 0, true), 6);
        due("10: the second gets one", f.piece(r, 1, 11, 1, true), 5);
        int many = f.repeat(A, B, 1, X, 0);
        due("10: the last of twenty", f.piece(many, 20, 1, 19, false), 19);
        due("10: none after twenty", f.piece(many, 20, 1, 20, false), NONE);
    }

    private static void drawOfOne() {
        HouseFronts f = new HouseFronts();
        due("11: wide 0", f.draw(0, 0, 1), OUTSIDE);
        due("11: high 21", f.draw(0, 1, 21), OUTSIDE);
        f.fill(A, 7, 4);
        due("11: one rule", f.draw(Integer.MIN_VALUE, 20, 20), 1);
        due("11: wide", f.count(4), 20);
        due("11: high", f.count(5), 20);
        due("11: outside changes nothing", f.draw(0, 21, 21), OUTSIDE);
        due("11: so wide still", f.count(4), 20);
        due("11: the letter", f.at(19, 19), 7);
    }

    private static void drawChooses() {
        HouseFronts f = new HouseFronts();
        f.fill(B, 9, 0);
        f.fill(A, 0, 0);
        f.fill(A, 1, 0);
        f.fill(A, 2, 0);
        f.only(2, WIDE, 2, 20);
        int[] seeds = {0, 1, 2, 3, 4, 5, 6, -1, 12345, Integer.MAX_VALUE, Integer.MIN_VALUE};
        for (int seed : seeds) {
            int mixed = (int) (seed * 1103515245L + 12345);
            int number = (mixed >>> 16) % 32768;
            f.draw(seed, 2, 1);
            due("11: of three, seed " + seed, f.at(0, 0), number % 3);
            f.draw(seed, 1, 1);
            due("11: of two that hold, seed " + seed, f.at(0, 0), new int[] {0, 2}[number % 2]);
        }
        // worked out by hand: seed 0 gives 12345, 16 bits shifted out 0; seed 1 gives 1103527590, shifted 16838
        f.draw(0, 2, 1);
        due("11: seed 0", f.at(0, 0), 0);
        f.draw(1, 2, 1);
        due("11: seed 1, 16838 modulo 3", f.at(0, 0), 2);
    }

    private static void drawKeys() {
        HouseFronts f = new HouseFronts();
        split(f, A, X, 0, B, 1, B, 1, B, 1);
        for (int letter = 0; letter < 7; letter++) {
            f.fill(B, letter, 0);
        }
        int[] seeds = {0, 5, -3, 100_000_000, Integer.MAX_VALUE};
        for (int seed : seeds) {
            due("11: four rules, seed " + seed, f.draw(seed, 3, 1), 4);
            for (int i = 0; i < 3; i++) {
                int key = (int) (31L * seed + i + 1);
                int mixed = (int) (key * 1103515245L + 12345);
                int number = (mixed >>> 16) % 32768 % 7;
                due("11: seed " + seed + ", part " + i, f.at(i, 0), number);
                due("13: seed " + seed + ", step " + (i + 1), f.step(i + 1), number + 1);
            }
        }
    }

    private static void drawFaults() {
        HouseFronts f = new HouseFronts();
        due("11: no rule at the top", f.draw(33, 2, 2), -101);
        due("15: at the seed", f.fault(), 33);
        split(f, A, X, 2, B, 1, C, 2);
        f.fill(B, 5, 1);
        int c = f.fill(C, 6, 1);
        due("11: three rules", f.draw(4, 3, 2), 3);
        due("15: no fault", f.fault(), 0);
        f.only(c, HIGH, 1, 1);
        due("11: no rule at part 1", f.draw(4, 3, 2), -101);
        due("15: at its key", f.fault(), 31 * 4 + 2);
        due("11: what was drawn stays", f.at(2, 1), 6);
        due("11: its cost stays", f.drawn(), 4);
        due("11: its steps stay", f.step(2), 2);
        due("11: there is no step 3", f.step(3), NONE);
        due("11: outside changes no fault", f.draw(1, 0, 0), OUTSIDE);
        due("15: the fault stays", f.fault(), 126);
        due("11: drawn again", f.draw(4, 3, 1), 3);
        due("15: no fault again", f.fault(), 0);
        // part 0 is met first, with all below it
        f.only(1, HIGH, 2, 2);
        f.only(2, HIGH, 2, 2);
        due("11: no rule at either", f.draw(4, 3, 1), -101);
        due("15: at the first", f.fault(), 125);
    }

    private static void drawDeep() {
        HouseFronts f = new HouseFronts();
        split(f, A, X, 1, A, -1);
        int key = 7;
        for (int level = 0; level < 20; level++) {
            key = 31 * key + 1;
        }
        due("11: endless", f.draw(7, 1, 1), -102);
        due("15: at the place below 20 others", f.fault(), key);
        f.clear();
        // each place peels one off, the last, 1 wide, is filled: 20 levels
        split(f, A, X, 1, A, -9, B, 1);
        f.fill(B, 1, 0);
        int last = f.fill(A, 2, 0);
        f.only(last, WIDE, 1, 1);
        due("11: 20 levels", f.draw(3, 20, 1), 39);
        due("14: 19 splits", f.drawn(), 19);
        f.clear();
        split(f, A, Y, 1, C, -1);
        split(f, C, X, 1, C, -9, B, 1);
        f.fill(B, 1, 0);
        last = f.fill(C, 2, 0);
        f.only(last, WIDE, 1, 1);
        due("11: 20 levels again", f.draw(3, 19, 1), 38);
        due("11: 21 levels", f.draw(3, 20, 1), -102);
        f.clear();
        split(f, A, X, 1, A, -1);
        f.only(0, WIDE, 2, 20);
        split(f, A, X, 0, B, 1);
        due("11: no rule below, not deep", f.draw(0, 1, 1), -101);
    }

    /** 400 places in a row, each with a chain of like ones below it. */
    private static void drawMost() {
        HouseFronts f = new HouseFronts();
        f.repeat(A, B, 1, X, 99);
        f.repeat(B, C, 1, Y, 99);
        for (int name = C; name < H; name++) {
            split(f, name, X, 99, name + 1, -1);
        }
        f.fill(H, 3, 99);
        due("11: 1 + 20 + 400 * 6", f.draw(1, 20, 20), 2421);
        due("14: all at 99", f.drawn(), 2421 * 99);
        due("13: the last step", f.step(2420), 7);
        due("13: none after it", f.step(2421), NONE);
        f.clear();
        // chains as long as they may be: 2 + 17 splits and a fill
        f.repeat(A, B, 1, X, 0);
        f.repeat(B, C, 1, Y, 0);
        split(f, C, X, 0, C, -1);
        f.fill(C, 0, 0);
        for (int seed = 0; seed < 30; seed++) {
            int got = f.draw(seed, 20, 20);
            due("11: no fault but deep, seed " + seed, got < 0 ? -102 : 0, got < 0 ? got : 0);
        }
    }

    private static void at() {
        HouseFronts f = new HouseFronts();
        split(f, A, X, 0, B, -1, C, 1);
        split(f, B, Y, 0, C, 1, H, -1);
        f.fill(C, 2, 0);
        f.fill(H, 7, 0);
        due("12: drawn", f.draw(0, 3, 2), 5);
        int[][] rows = {{2, 2, 2}, {7, 7, 2}};
        for (int y = 0; y < 2; y++) {
            for (int x = 0; x < 3; x++) {
                due("12: at(" + x + ", " + y + ")", f.at(x, y), rows[y][x]);
            }
        }
        due("12: x 3", f.at(3, 0), NONE);
        due("12: y 2", f.at(0, 2), NONE);
        due("12: x -1", f.at(-1, 1), NONE);
        due("12: y -1", f.at(1, -1), NONE);
        due("12: far beyond", f.at(Integer.MAX_VALUE, Integer.MIN_VALUE), NONE);
    }

    private static void stepAndDrawn() {
        HouseFronts f = new HouseFronts();
        split(f, A, X, 10, B, -1, C, 1);
        split(f, B, Y, 20, C, 1, H, -1);
        f.fill(C, 2, 3);
        f.fill(H, 7, 4);
        f.draw(0, 3, 2);
        int[] steps = {0, 1, 2, 3, 2};
        for (int i = 0; i < steps.length; i++) {
            due("13: step(" + i + ")", f.step(i), steps[i]);
        }
        due("13: step 5", f.step(5), NONE);
        due("13: step -1", f.step(-1), NONE);
        due("14: cost", f.drawn(), 10 + 20 + 3 + 4 + 3);
        f.only(0, WIDE, 1, 1);
        f.fill(A, 0, 50);
        due("14: cost stays with new rules", f.drawn(), 40);
        f.draw(0, 2, 2);
        due("14: a new cost", f.drawn(), 50);
        due("13: a new step", f.step(0), 4);
        due("13: the former steps are gone", f.step(1), NONE);
    }

    private static void fault() {
        HouseFronts f = new HouseFronts();
        f.draw(-44, 1, 1);
        due("15: a key below 0", f.fault(), -44);
        f.draw(0, 1, 1);
        due("15: a key of 0", f.fault(), 0);
        split(f, A, X, 0, A, -1, B, -1);
        due("11: faults in the second half of a tree", f.draw(1, 4, 1), -101);
        // A on 4, A on 2 (key 32), A on 1 (key 993) that has no rule
        due("15: the first met", f.fault(), 993);
        f.fill(A, 0, 0);
        f.only(1, WIDE, 1, 1);
        f.draw(1, 4, 1);
        due("15: then the one beside it", f.fault(), 994);
        f.fill(B, 0, 0);
        due("11: no fault", f.draw(1, 4, 1), 5);
        due("15: none", f.fault(), 0);
    }

    private static void take() {
        HouseFronts f = new HouseFronts();
        f.repeat(A, B, 1, X, 0);
        f.fill(B, 4, 0);
        f.draw(0, 10, 1);
        due("16: 10 wide", f.take(), STATE);
        f.draw(0, 1, 10);
        due("16: 10 high", f.take(), STATE);
        due("16: the board stays", f.count(2) * 10 + f.count(3), 11);
        due("16: a board of a has no parse", f.parses(), 0);
        f.draw(0, 1, 1);
        due("16: 1 to 1", f.take(), 1);
        due("16: now it has one", f.parses(), 1);
        f.draw(0, 9, 9);
        due("16: 9 to 9", f.take(), 1);
        due("16: wide", f.count(2), 9);
        due("16: high", f.count(3), 9);
        due("16: parses", f.parses(), 1);
        due("16: letter", f.put(80, 0), 4);
        due("16: parses of another board", f.parses(), 0);
        due("16: taken again", f.take(), 1);
        due("16: letter again", f.put(80, 4), 4);
        f.draw(0, 2, 1);
        f.take();
        due("16: two wide", f.count(2), 2);
        due("16: no place beyond", f.put(2, 0), UNKNOWN);
        f.clear();
        due("16: nothing is drawn", f.take(), STATE);
        due("16: the board stays so", f.count(2), 2);
    }

    private static void ways() {
        HouseFronts f = new HouseFronts();
        due("17: name 8", f.ways(8, 0, 0), UNKNOWN);
        due("17: wide 0", f.ways(A, 0, 1), OUTSIDE);
        due("17: high 21", f.ways(A, 1, 21), OUTSIDE);
        due("17: no rules", f.ways(A, 3, 3), 0);
        f.fill(A, 0, 0);
        due("17: one", f.ways(A, 3, 3), 1);
        f.fill(A, 0, 0);
        due("17: two like ones are two", f.ways(A, 3, 3), 2);
        f.repeat(B, A, 2, X, 0);
        due("17: three of two ways each", f.ways(B, 7, 1), 8);
        due("17: none where it does not fit", f.ways(B, 1, 7), 0);
        split(f, B, Y, 0, A, 1, B, 2);
        // 2 * (the repeat's 4 on 5 x 2), and the repeat's own 4
        due("17: sums and products", f.ways(B, 5, 3), 12);
        split(f, C, X, 0, A, 1, H, -1);
        due("17: a part without ways", f.ways(C, 4, 4), 0);
        f.fill(H, 0, 0);
        due("17: now it has", f.ways(C, 4, 4), 2);
    }

    private static void waysMost() {
        HouseFronts f = new HouseFronts();
        f.repeat(A, B, 1, X, 0);
        f.repeat(B, C, 1, Y, 0);
        f.fill(C, 0, 0);
        f.fill(C, 1, 0);
        due("17: 2 to the 40", f.ways(A, 2, 20), 1L << 40);
        due("17: 2 to the 57", f.ways(A, 19, 3), 1L << 57);
        due("17: 2 to the 60 is told as most", f.ways(A, 3, 20), MOST);
        due("17: 2 to the 400 too", f.ways(A, 20, 20), MOST);
        due("17: another name alone", f.ways(B, 1, 20), 1 << 20);
        f.clear();
        // ten to the 18 is told itself, and so is one less
        f.repeat(A, B, 1, X, 0);
        for (int i = 0; i < 10; i++) {
            f.fill(B, i, 0);
        }
        due("17: ten to the 17", f.ways(A, 17, 1), MOST / 10);
        due("17: ten to the 18", f.ways(A, 18, 1), MOST);
        due("17: ten to the 19", f.ways(A, 19, 1), MOST);
        f.fill(A, 0, 0);
        due("17: and one more", f.ways(A, 18, 1), MOST);
        due("17: and one more, below", f.ways(A, 17, 1), MOST / 10 + 1);
        split(f, C, X, 0, A, -1, H, 1);
        due("17: most times none is none", f.ways(C, 20, 1), 0);
    }

    /** B on k is 10 times B on k - 1 and 3: 3, 33, 333, .. */
    private static void waysJustBelowMost() {
        HouseFronts f = new HouseFronts();
        split(f, B, X, 0, B, -1, C, 1);
        for (int i = 0; i < 10; i++) {
            f.fill(C, i, 0);
        }
        for (int i = 0; i < 3; i++) {
            f.fill(B, i, 0);
            f.fill(H, i, 0);
        }
        split(f, A, X, 0, B, -1, H, 1);
        due("17: 3, 18 times", f.ways(B, 18, 1), 333_333_333_333_333_333L);
        due("17: 9, 18 times", f.ways(A, 19, 1), MOST - 1);
        f.fill(A, 0, 0);
        due("17: and one", f.ways(A, 19, 1), MOST);
        f.fill(A, 0, 0);
        due("17: and two", f.ways(A, 19, 1), MOST);
    }

    private static void waysEndless() {
        HouseFronts f = new HouseFronts();
        split(f, A, X, 0, A, -1);
        due("17: a circle with nothing in it", f.ways(A, 2, 2), 0);
        f.fill(A, 0, 0);
        due("17: endless", f.ways(A, 2, 2), ENDLESS);
        split(f, B, X, 0, A, 1, C, -1);
        due("17: endless times none", f.ways(B, 2, 2), 0);
        f.fill(C, 0, 0);
        due("17: endless times one", f.ways(B, 2, 2), ENDLESS);
        f.fill(B, 0, 0);
        due("17: endless and one", f.ways(B, 2, 2), ENDLESS);
        due("17: one alone, the split does not fit", f.ways(B, 1, 2), 1);
        f.only(0, WIDE, 1, 1);
        due("17: no circle at 2", f.ways(A, 2, 2), 1);
        due("17: but at 1", f.ways(A, 1, 2), ENDLESS);
        split(f, H, X, 0, B, -1);
        f.only(0, WIDE, 1, 20);
        due("17: endless by way of a name that is so by its parts", f.ways(H, 2, 2), ENDLESS);
        f.clear();
        // a circle of eight by repeats and sizes, with a way out at one place
        for (int name = A; name <= H; name++) {
            if (name % 2 == 0) {
                f.repeat(name, (name + 1) % 8, 3, Y, 0);
            } else {
                split(f, name, Y, 0, (name + 1) % 8, 5);
            }
        }
        due("17: a circle of eight without a way out", f.ways(A, 1, 5), 0);
        f.fill(H, 0, 0);
        for (int name = A; name <= H; name++) {
            due("17: a circle of eight from " + name, f.ways(name, 1, 5), ENDLESS);
        }
        due("17: no circle on 4", f.ways(H, 1, 4), 1);
        f.clear();
        // a chain of eight, doubled at each link, has no circle
        for (int name = A; name < H; name++) {
            split(f, name, X, 0, name + 1, -1);
            f.repeat(name, name + 1, 20, Y, 0);
        }
        f.fill(H, 0, 0);
        due("17: 2 to the 7", f.ways(A, 1, 20), 128);
        due("17: one where repeats do not fit", f.ways(A, 1, 19), 1);
    }

    private static void least() {
        HouseFronts f = new HouseFronts();
        due("18: name -1", f.least(-1, 0, 0), UNKNOWN);
        due("18: wide 21", f.least(A, 21, 1), OUTSIDE);
        due("18: high 0", f.least(A, 1, 0), OUTSIDE);
        due("18: none", f.least(A, 1, 1), NONE);
        f.fill(A, 0, 50);
        due("18: one", f.least(A, 4, 1), 50);
        split(f, A, X, 1, B, 1, B, -1);
        due("18: B has none", f.least(A, 4, 1), 50);
        f.fill(B, 0, 9);
        due("18: 1 + 9 + 9", f.least(A, 4, 1), 19);
        split(f, A, X, 0, A, -1);
        due("18: circles do not lessen", f.least(A, 4, 1), 19);
        split(f, B, X, 2, C, -1);
        f.fill(C, 0, 3);
        due("18: 1 + 5 + 5", f.least(A, 4, 1), 11);
        due("18: where the split does not fit", f.least(A, 1, 1), 50);
        f.clear();
        f.repeat(A, B, 1, X, 99);
        f.repeat(B, C, 1, Y, 99);
        f.fill(C, 0, 99);
        due("18: the dearest", f.least(A, 20, 20), 421 * 99);
    }

    private static void board() {
        HouseFronts f = new HouseFronts();
        f.fill(A, 0, 6);
        due("19: wide 0", f.board(0, 1), OUTSIDE);
        due("19: wide 10", f.board(10, 1), OUTSIDE);
        due("19: high 0", f.board(1, 0), OUTSIDE);
        due("19: high 10", f.board(1, 10), OUTSIDE);
        due("19: the board stays", f.count(2) * 10 + f.count(3), 11);
        due("19: 9 to 8", f.board(9, 8), 1);
        due("19: wide", f.count(2), 9);
        due("19: high", f.count(3), 8);
        due("19: all a", f.parses(), 1);
        f.put(3, 5);
        due("19: not all a", f.parses(), 0);
        due("19: anew", f.board(9, 8), 1);
        due("19: all a again", f.best(), 6);
        due("19: a at 3", f.put(3, 1), 0);
    }

    private static void put() {
        HouseFronts f = new HouseFronts();
        due("20: place 0", f.put(0, 25), 0);
        due("20: what was there", f.put(0, 3), 25);
        due("20: place 1", f.put(1, 0), UNKNOWN);
        due("20: place 9", f.put(9, 0), UNKNOWN);
        due("20: place -1", f.put(-1, 0), UNKNOWN);
        due("20: unknown ahead of outside", f.put(81, 26), UNKNOWN);
        due("20: letter 26", f.put(0, 26), OUTSIDE);
        due("20: letter -1", f.put(0, -1), OUTSIDE);
        due("20: refused ones change nothing", f.put(0, 0), 3);
        f.board(2, 3);
        due("20: x 1, y 2", f.put(19, 4), 0);
        due("20: x 2", f.put(20, 4), UNKNOWN);
        due("20: y 3", f.put(27, 4), UNKNOWN);
        due("20: x 1, y 2 again", f.put(19, 0), 4);
        due("20: far beyond", f.put(Integer.MAX_VALUE, 4), UNKNOWN);
        due("20: far below", f.put(Integer.MIN_VALUE, 4), UNKNOWN);
    }

    private static void parses() {
        HouseFronts f = new HouseFronts();
        split(f, A, X, 0, B, 1, B, -1);
        split(f, A, Y, 0, B, 1, B, -1);
        f.fill(B, 0, 0);
        f.fill(B, 1, 0);
        f.board(2, 2);
        due("21: all a, both ways", f.parses(), 2);
        f.put(1, 1);
        due("21: ab, aa: none", f.parses(), 0);
        f.put(10, 1);
        due("21: ab, ab: columns", f.parses(), 1);
        f.put(1, 0);
        f.put(9, 1);
        due("21: aa, bb: rows", f.parses(), 1);
        f.put(0, 2);
        due("21: ca, bb: none", f.parses(), 0);
        f.fill(A, 1, 0);
        f.board(1, 1);
        due("21: 1 to 1, a: none", f.parses(), 0);
        f.put(0, 1);
        due("21: 1 to 1, b: one", f.parses(), 1);
        split(f, A, X, 0, A, -1);
        due("21: endless", f.parses(), ENDLESS);
        f.put(0, 0);
        due("21: an endless circle of none", f.parses(), 0);
        f.clear();
        f.repeat(A, B, 1, X, 0);
        f.repeat(B, C, 1, Y, 0);
        for (int i = 0; i < 5; i++) {
            f.fill(C, 0, i);
        }
        f.board(9, 2);
        due("21: 5 to the 18", f.parses(), 3_814_697_265_625L);
        f.board(9, 3);
        due("21: most", f.parses(), MOST);
        f.put(20, 1);
        due("21: but none with a b", f.parses(), 0);
    }

    private static void best() {
        HouseFronts f = new HouseFronts();
        f.board(3, 1);
        due("22: none", f.best(), NONE);
        due("23: none", f.bestStep(0), NONE);
        f.fill(A, 0, 20);
        due("22: one", f.best(), 20);
        due("23: step 0", f.bestStep(0), 0);
        due("23: no step 1", f.bestStep(1), NONE);
        due("23: no step -1", f.bestStep(-1), NONE);
        split(f, A, X, 3, B, 1, C, -1);
        f.fill(B, 0, 5);
        f.fill(C, 0, 6);
        f.repeat(C, B, 1, X, 0);
        due("22: 3 + 5 + 6", f.best(), 14);
        int[] steps = {1, 2, 3};
        for (int i = 0; i < steps.length; i++) {
            due("23: step " + i, f.bestStep(i), steps[i]);
        }
        f.only(3, WIDE, 3, 3);
        due("22: 3 + 5 + 0 + 5 + 5", f.best(), 18);
        int[] others = {1, 2, 4, 2, 2};
        for (int i = 0; i < others.length; i++) {
            due("23: other step " + i, f.bestStep(i), others[i]);
        }
        due("23: no step 5", f.bestStep(5), NONE);
        f.put(2, 1);
        due("22: another board has none", f.best(), NONE);
        due("23: no steps", f.bestStep(0), NONE);
        f.fill(B, 1, 7);
        due("22: with a b", f.best(), 20);
        due("23: the b at last", f.bestStep(4), 5);
        due("23: far beyond", f.bestStep(Integer.MAX_VALUE), NONE);
    }

    private static void bestOfLikeOnes() {
        HouseFronts f = new HouseFronts();
        f.board(2, 1);
        split(f, A, X, 0, B, 1, B, 1);
        f.fill(B, 0, 0);
        f.fill(B, 0, 0);
        split(f, A, X, 0, C, -1);
        f.fill(C, 0, 0);
        due("22: 0", f.best(), 0);
        due("23: the fewest rules, though of a later number", f.bestStep(0), 3);
        due("23: C", f.bestStep(1), 4);
        due("23: two alone", f.bestStep(2), NONE);
        f.only(4, WIDE, 1, 1);
        due("23: the first of the like ones", f.bestStep(1), 1);
        due("23: and once more", f.bestStep(2), 1);
        f.clear();
        // of like cost and count: by number at the top, though the other's parts have lesser ones
        f.fill(C, 0, 1);
        f.fill(B, 0, 1);
        split(f, A, X, 1, B, -1);
        f.fill(H, 0, 0);
        split(f, A, Y, 1, C, -1);
        due("23: the top goes first", f.bestStep(0), 2);
        due("23: then its part", f.bestStep(1), 1);
        f.fill(A, 0, 2);
        due("23: fewer rules go ahead of number", f.bestStep(0), 5);
        f.only(5, HIGH, 2, 2);
        f.only(2, HIGH, 2, 2);
        due("23: the other one at last", f.bestStep(0), 4);
        due("22: its cost", f.best(), 2);
    }

    /** Two parts below the top, and two places in a row below it, are three rules each. */
    private static void bestByNumber() {
        HouseFronts f = new HouseFronts();
        f.board(2, 1);
        split(f, A, X, 0, H, -1, H, -1);
        split(f, A, X, 0, B, -1);
        split(f, B, X, 0, C, -1);
        f.fill(C, 0, 0);
        f.fill(H, 0, 0);
        split(f, A, X, 0, H, -2, H, -2);
        int[] parts = {0, 4, 4};
        for (int i = 0; i < 3; i++) {
            due("23: the split has the least number, step " + i, f.bestStep(i), parts[i]);
        }
        f.only(0, WIDE, 1, 1);
        int[] row = {1, 2, 3};
        for (int i = 0; i < 3; i++) {
            due("23: the row has the least number, step " + i, f.bestStep(i), row[i]);
        }
        f.only(1, WIDE, 1, 1);
        due("23: the other split alone", f.bestStep(0), 5);
        due("22: all are for nothing", f.best(), 0);
    }

    private static void bestInCircles() {
        HouseFronts f = new HouseFronts();
        split(f, A, X, 0, B, -1);
        split(f, B, X, 0, C, -1);
        split(f, C, X, 0, A, -1);
        due("22: a circle of none", f.best(), NONE);
        due("21: a circle of none", f.parses(), 0);
        f.fill(C, 0, 8);
        f.fill(A, 0, 9);
        due("21: endless", f.parses(), ENDLESS);
        due("22: by way of C", f.best(), 8);
        int[] steps = {0, 1, 3};
        for (int i = 0; i < steps.length; i++) {
            due("23: step " + i, f.bestStep(i), steps[i]);
        }
        f.fill(A, 0, 8);
        due("23: fewer rules", f.bestStep(0), 5);
        due("23: one alone", f.bestStep(1), NONE);
        due("24: C by way of A costs no less", f.stands(C, 0, 1, 1), ENDLESS);
    }

    private static void stands() {
        HouseFronts f = new HouseFronts();
        f.board(4, 3);
        due("24: name 8", f.stands(8, 0, 9, 9), UNKNOWN);
        due("24: place 4", f.stands(A, 4, 1, 1), UNKNOWN);
        due("24: place 27", f.stands(A, 27, 0, 0), UNKNOWN);
        due("24: place -1", f.stands(A, -1, 1, 1), UNKNOWN);
        due("24: wide 0", f.stands(A, 0, 0, 1), OUTSIDE);
        due("24: high 0", f.stands(A, 0, 1, 0), OUTSIDE);
        due("24: beyond the right", f.stands(A, 2, 3, 1), OUTSIDE);
        due("24: beyond the top", f.stands(A, 18, 1, 2), OUTSIDE);
        due("24: far beyond", f.stands(A, 2, Integer.MAX_VALUE, 1), OUTSIDE);
        due("24: no rules", f.stands(A, 0, 4, 3), 0);
        f.fill(B, 0, 0);
        f.fill(B, 1, 0);
        split(f, A, X, 0, B, 1, B, -1);
        f.put(2 + 9, 1);
        f.put(3 + 9, 1);
        due("24: all of it", f.stands(A, 0, 4, 3), 0);
        due("24: a to b", f.stands(A, 1 + 9, 3, 1), 1);
        due("24: the b alone", f.stands(B, 2 + 9, 2, 1), 1);
        due("24: b and a", f.stands(B, 2 + 9, 2, 2), 0);
        due("24: the last place", f.stands(B, 21, 1, 1), 1);
        f.fill(B, 0, 0);
        due("24: two a", f.stands(B, 0, 4, 1), 2);
        due("24: two for each of the two", f.stands(A, 0, 4, 1), 4);
        f.put(0, 7);
        due("24: not any more", f.stands(A, 0, 4, 1), 0);
        due("24: but beside it", f.stands(A, 1, 3, 1), 4);
    }

    private static void count() {
        HouseFronts f = new HouseFronts();
        f.fill(A, 0, 0);
        f.fill(A, 0, 0);
        f.part(A, 1, SHARE);
        f.board(3, 4);
        f.draw(0, 5, 6);
        int[] counts = {2, 1, 3, 4, 5, 6};
        for (int what = 0; what < counts.length; what++) {
            due("25: count(" + what + ")", f.count(what), counts[what]);
        }
        due("25: what 6", f.count(6), OUTSIDE);
        due("25: what -1", f.count(-1), OUTSIDE);
        due("25: what -10", f.count(Integer.MIN_VALUE), OUTSIDE);
    }
}
