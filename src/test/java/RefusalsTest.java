import java.util.ArrayList;
import java.util.List;

/**
 * "REFUSALS, of several the first that a call names. What is refused changes nothing.": each refusal of each call, with
 * all that can be asked of the object compared with a twin that was not asked to do what is refused.
 */
public final class RefusalsTest {
    private static final int UNKNOWN = -1, OUTSIDE = -2, STATE = -3, FULL = -4, NONE = -9;
    private static final int LEAST = Integer.MIN_VALUE, MOST = Integer.MAX_VALUE;
    private static final int[] NO_NAMES = {-1, 8, 40, LEAST, MOST};
    private static final int[] NO_LETTERS = {-1, 26, LEAST, MOST};
    private static final int[] NO_COSTS = {-1, 100, LEAST, MOST};
    private static final int[] NO_SIZES = {-1, 0, 21, LEAST, MOST};
    private static final int[] NO_SHARES = {-1, 0, 10, 20, LEAST, MOST};
    private static final int[] NO_SIDES = {-1, 0, 21, LEAST, MOST};
    /** The set-up has rules 0 .. 5. */
    private static final int[] NO_RULES = {-1, 6, 40, LEAST, MOST};
    /** The set-up's board is 3 wide, 2 high. */
    private static final int[] NO_PLACES = {-1, 3, 8, 12, 18, 81, -9, LEAST, MOST};
    private static final int[] NO_BOARD_SIDES = {-1, 0, 10, LEAST, MOST};

    private interface Call {
        long on(HouseFronts f);
    }

    private interface SetUp {
        HouseFronts make();
    }

    private RefusalsTest() {
    }

    public static void main(String[] args) {
        fill();
        part();
        split();
        repeat();
        only();
        rule();
        holds();
        piece();
        draw();
        take();
        waysAndLeast();
        board();
        put();
        stands();
        count();
        Due.end("RefusalsTest");
    }

    // ---- objects to be refused by

    /** Rules 0 .. 5, two parts collected, a front of 4 to 3 drawn, a fault, a board of 3 to 2. */
    private static HouseFronts used() {
        HouseFronts f = new HouseFronts();
        f.part(1, 1, false);
        f.part(2, 3, true);
        f.split(0, false, 2);
        f.fill(1, 3, 4);
        f.repeat(2, 3, 2, true, 1);
        f.fill(3, 0, 7);
        f.fill(0, 0, 9);
        f.fill(7, 25, 99);
        f.only(5, true, 2, 19);
        f.draw(5, 4, 3);
        f.only(4, false, 1, 3);
        f.draw(11, 20, 1);
        f.board(3, 2);
        f.put(11, 3);
        f.put(9, 3);
        f.put(0, 3);
        f.part(6, 9, true);
        f.part(5, 20, false);
        return f;
    }

    private static HouseFronts withSixParts() {
        HouseFronts f = used();
        for (int i = 0; i < 4; i++) {
            f.part(i, i + 1, true);
        }
        return f;
    }

    private static HouseFronts withFortyRules() {
        HouseFronts f = used();
        while (f.count(0) < 40) {
            f.fill(4, f.count(0) % 26, 1);
        }
        return f;
    }

    private static HouseFronts withNoParts() {
        HouseFronts f = used();
        f.split(6, true, 0);
        return f;
    }

    private static HouseFronts withFortyRulesAndNoParts() {
        HouseFronts f = withNoParts();
        while (f.count(0) < 40) {
            f.fill(4, f.count(0) % 26, 1);
        }
        return f;
    }

    private static HouseFronts drawn(int wide, int high) {
        HouseFronts f = used();
        f.fill(0, 1, 1);
        // the other rules of A hold for narrow fronts alone
        f.only(0, false, 1, 3);
        f.draw(1, wide, high);
        return f;
    }

    // ---- what can be seen

    private static void refused(String call, SetUp setUp, Call asked, int want) {
        HouseFronts f = setUp.make();
        Due.due(call, asked.on(f), want);
        List<Long> seen = seen(f);
        List<Long> twins = seen(setUp.make());
        for (int i = 0; i < seen.size(); i++) {
            if (!seen.get(i).equals(twins.get(i))) {
                Due.due(call + " changed what is seen at " + i, seen.get(i), twins.get(i));
                return;
            }
        }
    }

    /** All that is asked of an object, to the letters of the board and the parts collected, which are asked for at last. */
    private static List<Long> seen(HouseFronts f) {
        List<Long> seen = new ArrayList<>();
        for (int what = 0; what < 6; what++) {
            seen.add((long) f.count(what));
        }
        int rules = f.count(0);
        int wide = f.count(2);
        int high = f.count(3);
        for (int r = 0; r < rules && r < 8; r++) {
            for (int what = 0; what < 5; what++) {
                seen.add((long) f.rule(r, what));
            }
            int[][] scopes = {{1, 1}, {4, 3}, {3, 20}, {20, 2}, {20, 20}};
            for (int[] scope : scopes) {
                seen.add((long) f.holds(r, scope[0], scope[1]));
            }
            seen.add((long) f.piece(r, 4, 3, 1, true));
        }
        seen.add((long) f.fault());
        seen.add((long) f.drawn());
        for (int i = 0; i < 8; i++) {
            seen.add((long) f.step(i));
        }
        for (int place = 0; place < 20; place++) {
            seen.add((long) f.at(place % 5, place / 5));
        }
        for (int name = 0; name < 8; name++) {
            seen.add(f.ways(name, 4, 3));
            seen.add((long) f.least(name, 4, 3));
            seen.add(f.stands(name, 0, wide, high));
        }
        seen.add(f.parses());
        seen.add((long) f.best());
        for (int i = 0; i < 6; i++) {
            seen.add((long) f.bestStep(i));
        }
        for (int place = 0; place < 81; place++) {
            seen.add((long) f.put(place, 1));
        }
        seen.add((long) f.fill(7, 1, 1));
        if (rules == 40) {
            return seen;
        }
        int last = f.split(7, false, 3);
        seen.add((long) last);
        seen.add((long) f.rule(last, 3));
        for (int i = 0; i < 6; i++) {
            seen.add((long) f.piece(last, 20, 1, i, true));
        }
        return seen;
    }

    // ---- the refusals, call by call

    private static void fill() {
        Due.sentence("2 fill: UNKNOWN");
        for (int n : NO_NAMES) {
            refused("fill(" + n + ", 0, 0)", RefusalsTest::used, f -> f.fill(n, 0, 0), UNKNOWN);
        }
        Due.sentence("2 fill: OUTSIDE: letter");
        for (int l : NO_LETTERS) {
            refused("fill(0, " + l + ", 0)", RefusalsTest::used, f -> f.fill(0, l, 0), OUTSIDE);
        }
        Due.sentence("2 fill: OUTSIDE: cost");
        for (int c : NO_COSTS) {
            refused("fill(0, 0, " + c + ")", RefusalsTest::used, f -> f.fill(0, 0, c), OUTSIDE);
        }
        Due.sentence("2 fill: FULL");
        refused("fill(0, 0, 0), 40 rules", RefusalsTest::withFortyRules, f -> f.fill(0, 0, 0), FULL);
        Due.sentence("2 fill: of several the first: UNKNOWN; OUTSIDE; FULL");
        refused("fill(8, 26, 0)", RefusalsTest::used, f -> f.fill(8, 26, 0), UNKNOWN);
        refused("fill(-1, 0, 100)", RefusalsTest::used, f -> f.fill(-1, 0, 100), UNKNOWN);
        refused("fill(8, 0, 0), 40 rules", RefusalsTest::withFortyRules, f -> f.fill(8, 0, 0), UNKNOWN);
        refused("fill(0, 26, 0), 40 rules", RefusalsTest::withFortyRules, f -> f.fill(0, 26, 0), OUTSIDE);
        refused("fill(0, 0, 100), 40 rules", RefusalsTest::withFortyRules, f -> f.fill(0, 0, 100), OUTSIDE);
    }

    private static void part() {
        Due.sentence("3 part: UNKNOWN");
        for (int n : NO_NAMES) {
            refused("part(" + n + ", 1, false)", RefusalsTest::used, f -> f.part(n, 1, false), UNKNOWN);
            refused("part(" + n + ", 1, true)", RefusalsTest::used, f -> f.part(n, 1, true), UNKNOWN);
        }
        Due.sentence("3 part: OUTSIDE: a SIZE");
        for (int v : NO_SIZES) {
            refused("part(0, " + v + ", false)", RefusalsTest::used, f -> f.part(0, v, false), OUTSIDE);
        }
        Due.sentence("3 part: OUTSIDE: a SHARE");
        for (int v : NO_SHARES) {
            refused("part(0, " + v + ", true)", RefusalsTest::used, f -> f.part(0, v, true), OUTSIDE);
        }
        Due.sentence("3 part: FULL: 6");
        refused("part(0, 1, true), 6 parts", RefusalsTest::withSixParts, f -> f.part(0, 1, true), FULL);
        refused("part(0, 1, false), 6 parts", RefusalsTest::withSixParts, f -> f.part(0, 1, false), FULL);
        Due.sentence("3 part: of several the first: UNKNOWN; OUTSIDE; FULL");
        refused("part(8, 0, true)", RefusalsTest::used, f -> f.part(8, 0, true), UNKNOWN);
        refused("part(8, 1, true), 6 parts", RefusalsTest::withSixParts, f -> f.part(8, 1, true), UNKNOWN);
        refused("part(0, 21, false), 6 parts", RefusalsTest::withSixParts, f -> f.part(0, 21, false), OUTSIDE);
        refused("part(0, 10, true), 6 parts", RefusalsTest::withSixParts, f -> f.part(0, 10, true), OUTSIDE);
    }

    private static void split() {
        Due.sentence("4 split: UNKNOWN");
        for (int n : NO_NAMES) {
            refused("split(" + n + ", false, 0)", RefusalsTest::used, f -> f.split(n, false, 0), UNKNOWN);
        }
        Due.sentence("4 split: OUTSIDE: cost");
        for (int c : NO_COSTS) {
            refused("split(0, true, " + c + ")", RefusalsTest::used, f -> f.split(0, true, c), OUTSIDE);
        }
        Due.sentence("4 split: STATE: none is collected");
        refused("split(0, true, 0), no part", RefusalsTest::withNoParts, f -> f.split(0, true, 0), STATE);
        refused("split(0, true, 0), new", HouseFronts::new, f -> f.split(0, true, 0), STATE);
        Due.sentence("4 split: FULL");
        refused("split(0, false, 0), 40 rules", RefusalsTest::withFortyRules, f -> f.split(0, false, 0), FULL);
        refused("count(1) after it", RefusalsTest::withFortyRules, f -> f.split(0, false, 0) + f.count(1), FULL + 2);
        Due.sentence("4 split: of several the first: UNKNOWN; OUTSIDE; STATE; FULL");
        refused("split(8, true, 100)", RefusalsTest::used, f -> f.split(8, true, 100), UNKNOWN);
        refused("split(8, true, 0), no part", RefusalsTest::withNoParts, f -> f.split(8, true, 0), UNKNOWN);
        refused("split(8, true, 0), 40 rules", RefusalsTest::withFortyRules, f -> f.split(8, true, 0), UNKNOWN);
        refused("split(0, true, 100), no part", RefusalsTest::withNoParts, f -> f.split(0, true, 100), OUTSIDE);
        refused("split(0, true, 100), 40 rules", RefusalsTest::withFortyRules, f -> f.split(0, true, 100), OUTSIDE);
        refused("split(0, true, 0), 40 rules, no part", RefusalsTest::withFortyRulesAndNoParts, f -> f.split(0, true, 0), STATE);
    }

    private static void repeat() {
        Due.sentence("5 repeat: UNKNOWN: name");
        for (int n : NO_NAMES) {
            refused("repeat(" + n + ", 0, 1, false, 0)", RefusalsTest::used, f -> f.repeat(n, 0, 1, false, 0), UNKNOWN);
        }
        Due.sentence("5 repeat: UNKNOWN: of");
        for (int n : NO_NAMES) {
            refused("repeat(0, " + n + ", 1, true, 0)", RefusalsTest::used, f -> f.repeat(0, n, 1, true, 0), UNKNOWN);
        }
        Due.sentence("5 repeat: OUTSIDE: size");
        for (int s : NO_SIZES) {
            refused("repeat(0, 1, " + s + ", true, 0)", RefusalsTest::used, f -> f.repeat(0, 1, s, true, 0), OUTSIDE);
        }
        Due.sentence("5 repeat: OUTSIDE: cost");
        for (int c : NO_COSTS) {
            refused("repeat(0, 1, 1, false, " + c + ")", RefusalsTest::used, f -> f.repeat(0, 1, 1, false, c), OUTSIDE);
        }
        Due.sentence("5 repeat: FULL");
        refused("repeat(0, 1, 1, false, 0), 40 rules", RefusalsTest::withFortyRules, f -> f.repeat(0, 1, 1, false, 0), FULL);
        Due.sentence("5 repeat: of several the first: UNKNOWN; OUTSIDE; FULL");
        refused("repeat(8, 0, 0, false, 0)", RefusalsTest::used, f -> f.repeat(8, 0, 0, false, 0), UNKNOWN);
        refused("repeat(0, 8, 21, false, 0)", RefusalsTest::used, f -> f.repeat(0, 8, 21, false, 0), UNKNOWN);
        refused("repeat(0, 8, 1, false, 100)", RefusalsTest::used, f -> f.repeat(0, 8, 1, false, 100), UNKNOWN);
        refused("repeat(0, 8, 1, false, 0), 40 rules", RefusalsTest::withFortyRules, f -> f.repeat(0, 8, 1, false, 0), UNKNOWN);
        refused("repeat(0, 0, 0, false, 0), 40 rules", RefusalsTest::withFortyRules, f -> f.repeat(0, 0, 0, false, 0), OUTSIDE);
        refused("repeat(0, 0, 1, false, 100), 40 rules", RefusalsTest::withFortyRules, f -> f.repeat(0, 0, 1, false, 100), OUTSIDE);
    }

    private static void only() {
        Due.sentence("6 only: UNKNOWN: rule");
        for (int r : NO_RULES) {
            refused("only(" + r + ", false, 2, 3)", RefusalsTest::used, f -> f.only(r, false, 2, 3), UNKNOWN);
        }
        refused("only(0, false, 2, 3), new", HouseFronts::new, f -> f.only(0, false, 2, 3), UNKNOWN);
        refused("only(40, false, 2, 3), 40 rules", RefusalsTest::withFortyRules, f -> f.only(40, false, 2, 3), UNKNOWN);
        Due.sentence("6 only: OUTSIDE");
        int[][] none = {{0, 5}, {-1, 5}, {LEAST, 5}, {5, 21}, {5, MOST}, {0, 21}, {21, 21}, {0, 0}, {LEAST, MOST}, {MOST, LEAST}};
        for (int[] bounds : none) {
            String words = ", " + bounds[0] + ", " + bounds[1] + ")";
            refused("only(3, false" + words, RefusalsTest::used, f -> f.only(3, false, bounds[0], bounds[1]), OUTSIDE);
            refused("only(3, true" + words, RefusalsTest::used, f -> f.only(3, true, bounds[0], bounds[1]), OUTSIDE);
        }
        Due.sentence("6 only: OUTSIDE: from .. to is none, if from is beyond to");
        refused("only(3, false, 5, 4)", RefusalsTest::used, f -> f.only(3, false, 5, 4), OUTSIDE);
        refused("only(3, true, 20, 1)", RefusalsTest::used, f -> f.only(3, true, 20, 1), OUTSIDE);
        Due.sentence("6 only: of several the first: UNKNOWN; OUTSIDE");
        refused("only(6, false, 0, 21)", RefusalsTest::used, f -> f.only(6, false, 0, 21), UNKNOWN);
        refused("only(-1, true, 3, 2)", RefusalsTest::used, f -> f.only(-1, true, 3, 2), UNKNOWN);
    }

    private static void rule() {
        Due.sentence("8 rule: UNKNOWN");
        for (int r : NO_RULES) {
            refused("rule(" + r + ", 0)", RefusalsTest::used, f -> f.rule(r, 0), UNKNOWN);
        }
        refused("rule(0, 0), new", HouseFronts::new, f -> f.rule(0, 0), UNKNOWN);
        refused("rule(40, 0), 40 rules", RefusalsTest::withFortyRules, f -> f.rule(40, 0), UNKNOWN);
        Due.sentence("8 rule: OUTSIDE");
        for (int what : new int[] {-1, 5, LEAST, MOST}) {
            refused("rule(0, " + what + ")", RefusalsTest::used, f -> f.rule(0, what), OUTSIDE);
        }
        Due.sentence("8 rule: of several the first: UNKNOWN; OUTSIDE");
        refused("rule(6, 5)", RefusalsTest::used, f -> f.rule(6, 5), UNKNOWN);
    }

    private static void holds() {
        Due.sentence("9 holds: UNKNOWN");
        for (int r : NO_RULES) {
            refused("holds(" + r + ", 1, 1)", RefusalsTest::used, f -> f.holds(r, 1, 1), UNKNOWN);
        }
        refused("holds(40, 1, 1), 40 rules", RefusalsTest::withFortyRules, f -> f.holds(40, 1, 1), UNKNOWN);
        Due.sentence("9 holds: OUTSIDE: width, height");
        for (int s : NO_SIDES) {
            refused("holds(3, " + s + ", 1)", RefusalsTest::used, f -> f.holds(3, s, 1), OUTSIDE);
            refused("holds(3, 1, " + s + ")", RefusalsTest::used, f -> f.holds(3, 1, s), OUTSIDE);
        }
        Due.sentence("9 holds: of several the first: UNKNOWN; OUTSIDE");
        refused("holds(6, 0, 1)", RefusalsTest::used, f -> f.holds(6, 0, 1), UNKNOWN);
        refused("holds(6, 1, 21)", RefusalsTest::used, f -> f.holds(6, 1, 21), UNKNOWN);
    }

    private static void piece() {
        Due.sentence("10 piece: UNKNOWN");
        for (int r : NO_RULES) {
            refused("piece(" + r + ", 4, 3, 0, true)", RefusalsTest::used, f -> f.piece(r, 4, 3, 0, true), UNKNOWN);
        }
        refused("piece(40, 4, 3, 0, true), 40 rules", RefusalsTest::withFortyRules, f -> f.piece(40, 4, 3, 0, true), UNKNOWN);
        Due.sentence("10 piece: OUTSIDE");
        for (int s : NO_SIDES) {
            refused("piece(0, " + s + ", 3, 0, true)", RefusalsTest::used, f -> f.piece(0, s, 3, 0, true), OUTSIDE);
            refused("piece(0, 4, " + s + ", 0, false)", RefusalsTest::used, f -> f.piece(0, 4, s, 0, false), OUTSIDE);
        }
        Due.sentence("10 piece: STATE: it does not hold");
        refused("piece(0, 1, 3, 0, true), does not fit", RefusalsTest::used, f -> f.piece(0, 1, 3, 0, true), STATE);
        refused("piece(2, 4, 1, 0, false), does not fit", RefusalsTest::used, f -> f.piece(2, 4, 1, 0, false), STATE);
        refused("piece(4, 4, 3, 0, true), not for 4 wide", RefusalsTest::used, f -> f.piece(4, 4, 3, 0, true), STATE);
        refused("piece(5, 4, 20, 0, true), not for 20 high", RefusalsTest::used, f -> f.piece(5, 4, 20, 0, true), STATE);
        Due.sentence("10 piece: NONE: there is no such PART");
        for (int i : new int[] {-1, 2, 6, 20, LEAST, MOST}) {
            refused("piece(0, 4, 3, " + i + ", true)", RefusalsTest::used, f -> f.piece(0, 4, 3, i, true), NONE);
            refused("piece(0, 4, 3, " + i + ", false)", RefusalsTest::used, f -> f.piece(0, 4, 3, i, false), NONE);
        }
        refused("piece(3, 4, 3, 0, true), a fill", RefusalsTest::used, f -> f.piece(3, 4, 3, 0, true), NONE);
        Due.sentence("10 piece: of several the first: UNKNOWN; OUTSIDE; STATE; NONE");
        refused("piece(6, 0, 3, 0, true)", RefusalsTest::used, f -> f.piece(6, 0, 3, 0, true), UNKNOWN);
        refused("piece(6, 4, 3, 9, true)", RefusalsTest::used, f -> f.piece(6, 4, 3, 9, true), UNKNOWN);
        refused("piece(0, 1, 21, 0, true)", RefusalsTest::used, f -> f.piece(0, 1, 21, 0, true), OUTSIDE);
        refused("piece(0, 0, 3, 9, true)", RefusalsTest::used, f -> f.piece(0, 0, 3, 9, true), OUTSIDE);
        refused("piece(0, 1, 3, 9, true)", RefusalsTest::used, f -> f.piece(0, 1, 3, 9, true), STATE);
        refused("piece(0, 1, 3, -1, true)", RefusalsTest::used, f -> f.piece(0, 1, 3, -1, true), STATE);
    }

    private static void draw() {
        Due.sentence("11 draw: OUTSIDE");
        for (int s : NO_SIDES) {
            refused("draw(1, " + s + ", 3)", RefusalsTest::used, f -> f.draw(1, s, 3), OUTSIDE);
            refused("draw(1, 3, " + s + ")", RefusalsTest::used, f -> f.draw(1, 3, s), OUTSIDE);
        }
        Due.sentence("11 draw: what was DRAWN stays (at a FAULT)");
        // 11 is the key of the latest fault: one with the same key changes nothing at all
        refused("draw(11, 20, 1)", RefusalsTest::used, f -> f.draw(11, 20, 1), -101);
    }

    private static void take() {
        Due.sentence("16 take: STATE: nothing was DRAWN");
        refused("take(), new", HouseFronts::new, HouseFronts::take, STATE);
        refused("take(), cleared", () -> {
            HouseFronts f = used();
            f.clear();
            return f;
        }, HouseFronts::take, STATE);
        refused("take(), nothing but a fault", () -> {
            HouseFronts f = new HouseFronts();
            f.board(2, 2);
            f.draw(3, 2, 2);
            return f;
        }, HouseFronts::take, STATE);
        Due.sentence("16 take: STATE: it is wider, higher than 9");
        int[][] scopes = {{10, 9}, {9, 10}, {10, 10}, {20, 1}, {1, 20}};
        for (int[] scope : scopes) {
            refused("take() of " + scope[0] + " to " + scope[1], () -> drawn(scope[0], scope[1]), HouseFronts::take, STATE);
        }
    }

    private static void waysAndLeast() {
        Due.sentence("17 ways: UNKNOWN");
        for (int n : NO_NAMES) {
            refused("ways(" + n + ", 4, 3)", RefusalsTest::used, f -> f.ways(n, 4, 3), UNKNOWN);
        }
        Due.sentence("17 ways: OUTSIDE");
        for (int s : NO_SIDES) {
            refused("ways(0, " + s + ", 3)", RefusalsTest::used, f -> f.ways(0, s, 3), OUTSIDE);
            refused("ways(0, 3, " + s + ")", RefusalsTest::used, f -> f.ways(0, 3, s), OUTSIDE);
        }
        Due.sentence("17 ways: of several the first: UNKNOWN; OUTSIDE");
        refused("ways(8, 0, 3)", RefusalsTest::used, f -> f.ways(8, 0, 3), UNKNOWN);
        refused("ways(-1, 3, 21)", RefusalsTest::used, f -> f.ways(-1, 3, 21), UNKNOWN);
        Due.sentence("18 least: UNKNOWN");
        for (int n : NO_NAMES) {
            refused("least(" + n + ", 4, 3)", RefusalsTest::used, f -> f.least(n, 4, 3), UNKNOWN);
        }
        Due.sentence("18 least: OUTSIDE");
        for (int s : NO_SIDES) {
            refused("least(0, " + s + ", 3)", RefusalsTest::used, f -> f.least(0, s, 3), OUTSIDE);
            refused("least(0, 3, " + s + ")", RefusalsTest::used, f -> f.least(0, 3, s), OUTSIDE);
        }
        Due.sentence("18 least: of several the first: UNKNOWN; OUTSIDE");
        refused("least(8, 0, 3)", RefusalsTest::used, f -> f.least(8, 0, 3), UNKNOWN);
        refused("least(-1, 3, 21)", RefusalsTest::used, f -> f.least(-1, 3, 21), UNKNOWN);
    }

    private static void board() {
        Due.sentence("19 board: OUTSIDE");
        for (int s : NO_BOARD_SIDES) {
            refused("board(" + s + ", 2)", RefusalsTest::used, f -> f.board(s, 2), OUTSIDE);
            refused("board(2, " + s + ")", RefusalsTest::used, f -> f.board(2, s), OUTSIDE);
        }
    }

    private static void put() {
        Due.sentence("20 put: UNKNOWN: x + 9 y is none");
        for (int p : NO_PLACES) {
            refused("put(" + p + ", 1)", RefusalsTest::used, f -> f.put(p, 1), UNKNOWN);
        }
        Due.sentence("20 put: OUTSIDE: letter");
        for (int l : NO_LETTERS) {
            refused("put(11, " + l + ")", RefusalsTest::used, f -> f.put(11, l), OUTSIDE);
        }
        Due.sentence("20 put: of several the first: UNKNOWN; OUTSIDE");
        refused("put(3, 26)", RefusalsTest::used, f -> f.put(3, 26), UNKNOWN);
        refused("put(-1, -1)", RefusalsTest::used, f -> f.put(-1, -1), UNKNOWN);
    }

    private static void stands() {
        Due.sentence("24 stands: UNKNOWN: name");
        for (int n : NO_NAMES) {
            refused("stands(" + n + ", 0, 1, 1)", RefusalsTest::used, f -> f.stands(n, 0, 1, 1), UNKNOWN);
        }
        Due.sentence("24 stands: UNKNOWN: place");
        for (int p : NO_PLACES) {
            refused("stands(0, " + p + ", 1, 1)", RefusalsTest::used, f -> f.stands(0, p, 1, 1), UNKNOWN);
        }
        Due.sentence("24 stands: OUTSIDE: it is not within THE BOARD");
        int[][] none = {{0, 4, 1}, {0, 1, 3}, {2, 2, 1}, {9, 1, 2}, {11, 2, 2}, {11, MOST, 1}, {11, 1, MOST}, {0, 0, 1}, {0, 1, 0},
                {11, -1, 1}, {11, 1, -1}, {0, LEAST, 1}, {0, 1, LEAST}, {1, 3, 1}, {0, 10, 1}, {0, 1, 10}};
        for (int[] part : none) {
            refused("stands(1, " + part[0] + ", " + part[1] + ", " + part[2] + ")", RefusalsTest::used,
                    f -> f.stands(1, part[0], part[1], part[2]), OUTSIDE);
        }
        Due.sentence("24 stands: of several the first: UNKNOWN; OUTSIDE");
        refused("stands(8, 0, 4, 1)", RefusalsTest::used, f -> f.stands(8, 0, 4, 1), UNKNOWN);
        refused("stands(0, 3, 0, 0)", RefusalsTest::used, f -> f.stands(0, 3, 0, 0), UNKNOWN);
    }

    private static void count() {
        Due.sentence("25 count: OUTSIDE");
        for (int what : new int[] {-1, 6, LEAST, MOST}) {
            refused("count(" + what + ")", RefusalsTest::used, f -> f.count(what), OUTSIDE);
        }
    }
}
