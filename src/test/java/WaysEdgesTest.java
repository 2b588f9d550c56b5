/** The document's point 2, WAYS, and promises 17 and 18: each sentence that names a boundary, with a test of its own. */
public final class WaysEdgesTest {
    private static final int A = 0, B = 1, C = 2, D = 3, E = 4, H = 7;
    private static final int UNKNOWN = -1, OUTSIDE = -2, NONE = -9, ENDLESS = -10;
    private static final long MOST = 1_000_000_000_000_000_000L;
    private static final boolean X = false, Y = true, WIDE = false, HIGH = true;

    private WaysEdgesTest() {
    }

    public static void main(String[] args) {
        scopes();
        none();
        counted();
        beyondInts();
        most();
        mostBySums();
        mostByProducts();
        mostByChains();
        mostAndNone();
        endlessByOne();
        endlessByMany();
        endlessByEachKind();
        endlessNeedsAnEnd();
        endlessNeedsTheWhole();
        endlessAndOthers();
        endlessIsNoMost();
        notEndless();
        inAnyOrder();
        rowOfEight();
        boundsOfRules();
        least();
        leastOfNone();
        leastInCircles();
        leastOfMost();
        Due.end("WaysEdgesTest");
    }

    private static void due(String call, long got, long want) {
        Due.due(call, got, want);
    }

    /** A part is a name and a size, or a share told as a number below 0. */
    private static int split(HouseFronts f, int name, boolean y, int cost, int... parts) {
        for (int i = 0; i + 1 < parts.length; i += 2) {
            f.part(parts[i], Math.abs(parts[i + 1]), parts[i + 1] < 0);
        }
        return f.split(name, y, cost);
    }

    private static void fills(HouseFronts f, int name, int number) {
        for (int i = 0; i < number; i++) {
            f.fill(name, i % 26, i);
        }
    }

    private static void scopes() {
        Due.sentence("1: a SCOPE (so wide, so high, 1 to 20 each): of ways() and least()");
        HouseFronts f = new HouseFronts();
        f.fill(H, 0, 3);
        int[][] scopes = {{1, 1}, {20, 20}, {1, 20}, {20, 1}};
        for (int[] scope : scopes) {
            due("ways of " + scope[0] + " to " + scope[1], f.ways(H, scope[0], scope[1]), 1);
            due("least of " + scope[0] + " to " + scope[1], f.least(H, scope[0], scope[1]), 3);
        }
    }

    private static void none() {
        Due.sentence("2: how many DERIVATIONS there are: none");
        HouseFronts f = new HouseFronts();
        due("no rules", f.ways(A, 1, 1), 0);
        f.fill(B, 0, 0);
        due("none of this name", f.ways(A, 1, 1), 0);
        f.repeat(A, B, 2, X, 0);
        due("none that fits", f.ways(A, 1, 1), 0);
        due("one that fits", f.ways(A, 2, 1), 1);
        split(f, A, X, 0, B, 1, C, 1);
        due("a part that has none", f.ways(A, 2, 1), 1);
        f.fill(A, 0, 0);
        f.only(3, WIDE, 5, 6);
        due("one for other widths", f.ways(A, 2, 1), 1);
    }

    private static void counted() {
        Due.sentence("1: a RULE of it that holds, and DERIVATIONS of all its PARTS on theirs");
        HouseFronts f = new HouseFronts();
        fills(f, B, 2);
        fills(f, C, 3);
        split(f, A, X, 0, B, 1, C, -1, B, 2);
        due("2 * 3 * 2", f.ways(A, 4, 1), 12);
        f.repeat(A, C, 2, X, 0);
        due("and 3 * 3", f.ways(A, 4, 1), 21);
        f.only(0, WIDE, 2, 20);
        due("1 * 3 * 2 and 3 * 3", f.ways(A, 4, 1), 15);
    }

    private static void beyondInts() {
        Due.sentence("Numbers told as longs may be beyond ints; refusals are told likewise");
        HouseFronts f = new HouseFronts();
        f.repeat(A, B, 1, X, 0);
        fills(f, B, 2);
        due("2 to the 20", f.ways(A, 20, 1), 1 << 20);
        f.repeat(C, A, 1, Y, 0);
        due("2 to the 30", f.ways(C, 10, 3), 1L << 30);
        due("2 to the 32", f.ways(C, 16, 2), 1L << 32);
        due("2 to the 57", f.ways(C, 3, 19), 1L << 57);
        due("refused", f.ways(8, 1, 1), UNKNOWN);
        due("refused", f.ways(C, 21, 1), OUTSIDE);
    }

    private static void most() {
        Due.sentence("2: at most 10 to the 18: as many");
        HouseFronts f = new HouseFronts();
        f.repeat(A, B, 1, X, 0);
        fills(f, B, 10);
        due("10 to the 17", f.ways(A, 17, 1), MOST / 10);
        due("10 to the 18", f.ways(A, 18, 1), MOST);
        Due.sentence("2: at most 10 to the 18 (told so, if there are more)");
        due("10 to the 19", f.ways(A, 19, 1), MOST);
        due("10 to the 20", f.ways(A, 20, 1), MOST);
        f.repeat(C, A, 1, Y, 0);
        due("10 to the 400, far beyond longs", f.ways(C, 20, 20), MOST);
        // 2 to the 64 would be 0, if it wrapped around
        f.clear();
        f.repeat(A, B, 1, X, 0);
        f.repeat(C, A, 1, Y, 0);
        fills(f, B, 2);
        due("2 to the 63", f.ways(C, 9, 7), MOST);
        due("2 to the 64", f.ways(C, 16, 4), MOST);
        due("2 to the 60", f.ways(C, 20, 3), MOST);
        due("2 to the 57", f.ways(C, 19, 3), 1L << 57);
    }

    private static void mostBySums() {
        Due.sentence("2: at most 10 to the 18: one less, by sums");
        // B on k is 10 times B on k - 1 and 9: 9, 99, 999, ..
        HouseFronts f = new HouseFronts();
        split(f, B, X, 0, B, -1, C, 1);
        fills(f, C, 10);
        fills(f, B, 9);
        f.only(0, WIDE, 2, 20);
        due("9, 2 times", f.ways(B, 2, 1), 99);
        due("9, 18 times", f.ways(B, 18, 1), MOST - 1);
        f.fill(B, 0, 0);
        f.only(20, WIDE, 18, 18);
        due("and one", f.ways(B, 18, 1), MOST);
        f.fill(B, 0, 0);
        f.only(21, WIDE, 18, 18);
        due("and two: told so", f.ways(B, 18, 1), MOST);
        due("ten times as many: told so", f.ways(B, 19, 1), MOST);
    }

    private static void mostByProducts() {
        Due.sentence("2: at most 10 to the 18: one less, by products");
        // B on k is 10 times B on k - 1 and 3: 3, 33, 333, .., and A is thrice as many
        HouseFronts f = new HouseFronts();
        split(f, B, X, 0, B, -1, C, 1);
        fills(f, C, 10);
        fills(f, B, 3);
        f.only(0, WIDE, 2, 20);
        fills(f, H, 3);
        split(f, A, X, 0, B, -1, H, 1);
        split(f, D, X, 0, H, 1, B, -1);
        due("3, 18 times", f.ways(B, 18, 1), MOST / 3);
        due("thrice as many", f.ways(A, 19, 1), MOST - 1);
        due("the other way round", f.ways(D, 19, 1), MOST - 1);
        f.fill(H, 0, 0);
        due("four times as many: told so", f.ways(A, 19, 1), MOST);
        due("the other way round: told so", f.ways(D, 19, 1), MOST);
    }

    private static void mostByChains() {
        Due.sentence("2: at most 10 to the 18: by RULES with one PART");
        HouseFronts f = new HouseFronts();
        f.repeat(C, D, 1, X, 0);
        fills(f, D, 10);
        split(f, B, Y, 0, C, -1);
        split(f, A, Y, 0, B, -1);
        split(f, A, X, 0, C, -1);
        due("twice 10 to the 17", f.ways(A, 17, 1), MOST / 5);
        due("twice 10 to the 18: told so", f.ways(A, 18, 1), MOST);
        for (int i = 0; i < 8; i++) {
            split(f, A, X, 0, B, -1);
        }
        due("ten times 10 to the 17", f.ways(A, 17, 1), MOST);
        f.fill(A, 0, 0);
        due("and one: told so", f.ways(A, 17, 1), MOST);
        due("10 to the 17 and none more", f.ways(B, 17, 1), MOST / 10);
    }

    private static void mostAndNone() {
        Due.sentence("2: how many DERIVATIONS there are: none, if a PART has none, however many the others have");
        HouseFronts f = new HouseFronts();
        split(f, A, X, 0, B, -1, C, 1);
        split(f, D, X, 0, C, 1, B, -1);
        f.repeat(B, E, 1, X, 0);
        fills(f, E, 10);
        due("B has more than most", f.ways(B, 19, 1), MOST);
        due("none behind it", f.ways(A, 20, 1), 0);
        due("none ahead of it", f.ways(D, 20, 1), 0);
        f.fill(C, 0, 0);
        due("one behind it", f.ways(A, 20, 1), MOST);
        due("one ahead of it", f.ways(D, 20, 1), MOST);
    }

    private static void endlessByOne() {
        Due.sentence("2: ENDLESS -10, if there are some of any COUNT of RULES: a RULE of A itself");
        HouseFronts f = new HouseFronts();
        split(f, A, X, 0, A, -1);
        f.fill(A, 0, 0);
        due("ways", f.ways(A, 1, 1), -10);
        due("ways of 20 to 20", f.ways(A, 20, 20), ENDLESS);
    }

    private static void endlessByMany() {
        Due.sentence("2: ENDLESS: a circle through all NAMES, from each of them");
        for (int end = A; end <= H; end++) {
            HouseFronts f = new HouseFronts();
            for (int name = H; name >= A; name--) {
                split(f, name, name % 2 == 0, 0, (name + 1) % 8, -3);
            }
            f.fill(end, 0, 0);
            for (int name = A; name <= H; name++) {
                due("end at " + end + ", ways of " + name, f.ways(name, 4, 4), ENDLESS);
            }
        }
        Due.sentence("2: ENDLESS: a chain of six that leads to a circle of two");
        HouseFronts f = new HouseFronts();
        for (int name = A; name < H; name++) {
            split(f, name, X, 0, name + 1, -1);
        }
        split(f, H, X, 0, 6, -1);
        due("no end", f.ways(A, 1, 1), 0);
        f.fill(H, 0, 0);
        due("from the chain's begin", f.ways(A, 1, 1), ENDLESS);
        due("from the circle", f.ways(6, 1, 1), ENDLESS);
    }

    private static void endlessByEachKind() {
        Due.sentence("2: ENDLESS: by a PART as long as the whole: a SHARE, a SIZE, a REPEAT that goes in once, along x, y");
        for (int kind = 0; kind < 6; kind++) {
            HouseFronts f = new HouseFronts();
            boolean y = kind % 2 == 1;
            if (kind < 2) {
                split(f, A, y, 0, A, -9);
            } else if (kind < 4) {
                split(f, A, y, 0, A, 5);
            } else {
                f.repeat(A, A, 3, y, 0);
            }
            f.fill(A, 0, 0);
            due("kind " + kind, f.ways(A, 5, 5), ENDLESS);
        }
    }

    private static void endlessNeedsAnEnd() {
        Due.sentence("2: ENDLESS, if there are some: a circle out of which nothing leads has none");
        HouseFronts f = new HouseFronts();
        split(f, A, X, 0, B, -1);
        split(f, B, Y, 0, A, -1);
        due("ways", f.ways(A, 3, 3), 0);
        due("least", f.least(A, 3, 3), NONE);
        f.fill(B, 0, 0);
        f.only(2, WIDE, 4, 20);
        due("an end for other widths", f.ways(A, 3, 3), 0);
        due("an end for this width", f.ways(A, 4, 3), ENDLESS);
        Due.sentence("2: ENDLESS: a circle that cannot be reached does not count");
        f.fill(C, 0, 0);
        split(f, A, X, 0, C, 1, C, -1);
        due("beside the circle without an end", f.ways(A, 3, 3), ENDLESS);
        due("C", f.ways(C, 4, 3), 1);
        Due.sentence("2: ENDLESS: a way to a circle without an end does not count");
        HouseFronts g = new HouseFronts();
        split(g, A, X, 0, B, -1);
        split(g, B, X, 0, B, -1);
        fills(g, A, 2);
        due("two, and none by way of B", g.ways(A, 2, 2), 2);
    }

    private static void endlessNeedsTheWhole() {
        Due.sentence("2: ENDLESS: a PART that is shorter than the whole makes no circle");
        HouseFronts f = new HouseFronts();
        split(f, A, X, 0, A, -1, A, 1);
        f.repeat(A, A, 2, Y, 0);
        f.fill(A, 0, 0);
        f.only(1, HIGH, 4, 20);
        due("1 to 1", f.ways(A, 1, 1), 1);
        due("2 to 1", f.ways(A, 2, 1), 2);
        due("3 to 1", f.ways(A, 3, 1), 3);
        due("1 to 4: twice, or once", f.ways(A, 1, 4), 2);
        f.only(1, HIGH, 3, 20);
        due("1 to 3: the repeat goes in once", f.ways(A, 1, 3), ENDLESS);
        due("1 to 4: not below it", f.ways(A, 1, 4), 2);
        due("1 to 6: thrice 2, none of 3", f.ways(A, 1, 6), 2);
    }

    private static void endlessAndOthers() {
        Due.sentence("2: ENDLESS: by a PART that is so");
        HouseFronts f = new HouseFronts();
        split(f, A, X, 0, B, 1, C, 1, D, 1);
        f.fill(B, 0, 0);
        f.fill(D, 0, 0);
        split(f, C, Y, 0, C, -1);
        due("C has none", f.ways(A, 3, 1), 0);
        f.fill(C, 0, 0);
        due("C is endless", f.ways(A, 3, 1), ENDLESS);
        f.only(2, HIGH, 2, 20);
        due("D has none behind it", f.ways(A, 3, 1), 0);
        f.fill(A, 0, 0);
        due("and one that is not", f.ways(A, 3, 1), 1);
        f.only(2, HIGH, 1, 20);
        due("endless and one", f.ways(A, 3, 1), ENDLESS);
        f.only(1, HIGH, 2, 20);
        due("B has none ahead of it", f.ways(A, 3, 1), 1);
        Due.sentence("2: ENDLESS: by a chain to a NAME that is so by its PARTS");
        f.only(1, HIGH, 1, 20);
        split(f, E, X, 0, H, -1);
        split(f, H, X, 0, A, -1);
        due("E to H to A", f.ways(E, 3, 1), ENDLESS);
        due("E to H to A, that is not so on 2", f.ways(E, 2, 1), 1);
    }

    private static void endlessIsNoMost() {
        Due.sentence("2: ENDLESS, .. at most 10 to the 18: both");
        HouseFronts f = new HouseFronts();
        f.repeat(A, B, 1, X, 0);
        f.repeat(A, B, 19, X, 0);
        fills(f, B, 10);
        due("more than most", f.ways(A, 20, 1), MOST);
        split(f, C, X, 0, C, -1);
        split(f, C, X, 0, A, -1);
        due("endless, of more than most", f.ways(C, 20, 1), ENDLESS);
        split(f, D, X, 0, A, 18, C, 2);
        split(f, E, X, 0, C, 2, A, 18);
        due("most times endless", f.ways(D, 20, 1), ENDLESS);
        due("endless times most", f.ways(E, 20, 1), ENDLESS);
        f.repeat(D, B, 1, X, 0);
        due("endless and most", f.ways(D, 20, 1), ENDLESS);
    }

    private static void notEndless() {
        Due.sentence("2: ENDLESS: a chain through all NAMES is no circle");
        HouseFronts f = new HouseFronts();
        for (int name = A; name < H; name++) {
            split(f, name, X, 1, name + 1, -1);
            split(f, name, Y, 2, name + 1, -1);
        }
        fills(f, H, 3);
        due("3 times 2 to the 7", f.ways(A, 5, 5), 384);
        due("least: seven and none", f.least(A, 5, 5), 7);
        Due.sentence("2: ENDLESS: the same chain the other way round");
        f.clear();
        for (int name = H; name > A; name--) {
            split(f, name, X, 1, name - 1, -1);
            split(f, name, Y, 2, name - 1, -1);
        }
        fills(f, A, 3);
        due("3 times 2 to the 7", f.ways(H, 5, 5), 384);
        due("least: seven and none", f.least(H, 5, 5), 7);
        due("asked for one in the middle, first", f.ways(D, 6, 6), 24);
        due("then for one above it", f.ways(E, 6, 6), 48);
    }

    private static void inAnyOrder() {
        Due.sentence("17: WAYS of a NAME on a SCOPE: whichever of them were asked for ahead of it");
        HouseFronts f = new HouseFronts();
        for (int name = A; name <= H; name++) {
            fills(f, name, 1 + name % 4);
        }
        split(f, D, X, 0, E, -1);
        split(f, C, X, 0, D, -1);
        int[] ways = {1, 2, 8, 5, 1, 2, 3, 4};
        int[] order = {7, 6, 5, 4, 3, 2, 1, 0, 0, 1, 2, 3, 4, 5, 6, 7, 3, 4, 2};
        for (int name : order) {
            due("ways of " + name, f.ways(name, 5, 4), ways[name]);
            due("stands of " + name, f.stands(name, 0, 1, 1), name == D ? 2 : name == C ? 3 : 1);
            due("least of " + name, f.least(name, 5, 4), 0);
        }
    }

    private static void rowOfEight() {
        Due.sentence("2: DERIVATIONS: a row of all NAMES on one SCOPE, with two PARTS below the last");
        HouseFronts f = new HouseFronts();
        for (int name = A; name < H; name++) {
            split(f, name, X, 1, name + 1, -1);
        }
        split(f, H, X, 1, A, 2, B, 2);
        fills(f, H, 3);
        f.only(7, WIDE, 4, 4);
        for (int r = 8; r < 11; r++) {
            f.only(r, WIDE, 2, 2);
        }
        due("3 * 3", f.ways(A, 4, 1), 9);
        due("7 + 1 + 7 + 6", f.least(A, 4, 1), 21);
    }

    private static void boundsOfRules() {
        Due.sentence("17: WAYS of a NAME on a SCOPE: as the RULES are when it is asked");
        HouseFronts f = new HouseFronts();
        f.fill(A, 0, 5);
        due("a fill", f.ways(A, 2, 2), 1);
        f.fill(A, 0, 4);
        due("another fill", f.ways(A, 2, 2), 2);
        due("its cost", f.least(A, 2, 2), 4);
        f.part(B, 1, true);
        due("a part changes nothing", f.ways(A, 2, 2), 2);
        f.split(A, X, 0);
        due("a split to no ways", f.ways(A, 2, 2), 2);
        f.fill(B, 0, 3);
        due("now it has some", f.ways(A, 2, 2), 3);
        due("its cost", f.least(A, 2, 2), 3);
        f.repeat(A, B, 2, X, 0);
        due("a repeat", f.ways(A, 2, 2), 4);
        f.only(3, WIDE, 1, 1);
        due("B holds no more", f.ways(A, 2, 2), 2);
        due("its cost", f.least(A, 2, 2), 4);
        f.clear();
        due("no rules", f.ways(A, 2, 2), 0);
        due("no cost", f.least(A, 2, 2), NONE);
    }

    private static void least() {
        Due.sentence("18: The least COST of a DERIVATION: 0");
        HouseFronts f = new HouseFronts();
        f.fill(A, 0, 0);
        due("one fill", f.least(A, 20, 20), 0);
        Due.sentence("18: The least COST of a DERIVATION: whatever the RULES' numbers, whatever their count");
        f.clear();
        f.fill(A, 0, 12);
        due("a fill", f.least(A, 3, 1), 12);
        f.repeat(A, B, 1, X, 2);
        f.fill(B, 0, 3);
        due("four rules for 11", f.least(A, 3, 1), 11);
        due("five rules for 14", f.least(A, 4, 1), 12);
        f.fill(A, 0, 10);
        due("a later fill for 10", f.least(A, 3, 1), 10);
        split(f, A, Y, 0, B, -1);
        due("two rules for 3", f.least(A, 3, 1), 3);
        f.only(4, HIGH, 1, 1);
        f.only(1, WIDE, 5, 5);
        due("5 wide, 2 high: 17, 12 or 10", f.least(A, 5, 2), 10);
        f.only(3, HIGH, 4, 9);
        due("5 wide, 2 high: 17 or 12", f.least(A, 5, 2), 12);
        due("2 wide, 5 high: 10", f.least(A, 2, 5), 10);
        due("1 wide, 3 high: 12", f.least(A, 1, 3), 12);
    }

    private static void leastOfNone() {
        Due.sentence("18: NONE: there is none");
        HouseFronts f = new HouseFronts();
        due("no rules", f.least(A, 1, 1), NONE);
        f.repeat(A, B, 3, X, 0);
        due("a part has none", f.least(A, 3, 1), NONE);
        f.fill(B, 0, 0);
        due("it fits", f.least(A, 3, 1), 0);
        due("it does not fit", f.least(A, 2, 1), NONE);
        split(f, C, X, 0, B, 1, D, 1);
        due("one part has one, the other none", f.least(C, 2, 1), NONE);
    }

    private static void leastInCircles() {
        Due.sentence("18: The least COST: of endless ones too");
        HouseFronts f = new HouseFronts();
        split(f, A, X, 0, B, -1);
        split(f, B, X, 0, A, -1);
        due("none", f.least(A, 2, 2), NONE);
        f.fill(A, 0, 9);
        due("from A", f.least(A, 2, 2), 9);
        due("from B", f.least(B, 2, 2), 9);
        f.fill(B, 0, 4);
        due("from A by way of B", f.least(A, 2, 2), 4);
        f.fill(B, 0, 0);
        due("for nothing", f.least(A, 2, 2), 0);
    }

    private static void leastOfMost() {
        Due.sentence("18: The least COST: of more than 10 to the 18 too");
        HouseFronts f = new HouseFronts();
        f.repeat(A, B, 1, X, 99);
        f.repeat(B, C, 1, Y, 99);
        for (int i = 0; i < 10; i++) {
            f.fill(C, 0, 99 - i);
        }
        due("ways", f.ways(A, 20, 20), MOST);
        due("99 * 21 + 90 * 400", f.least(A, 20, 20), 38079);
        Due.sentence("18: The least COST: as large as it can be");
        f.clear();
        f.repeat(A, B, 1, X, 99);
        f.repeat(B, C, 1, Y, 99);
        for (int name = C; name < H; name++) {
            split(f, name, X, 99, name + 1, -1);
        }
        f.fill(H, 0, 99);
        due("99 * (21 + 6 * 400)", f.least(A, 20, 20), 239679);
        due("one way", f.ways(A, 20, 20), 1);
    }
}
