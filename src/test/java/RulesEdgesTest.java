/** The document's point 1 and promises 1 to 10: each sentence that names a boundary, with a test of its own. */
public final class RulesEdgesTest {
    private static final int A = 0, B = 1, C = 2, D = 3, H = 7;
    private static final int STATE = -3, FULL = -4, NONE = -9;
    private static final boolean X = false, Y = true, WIDE = false, HIGH = true, SIZE = false, SHARE = true;

    private RulesEdgesTest() {
    }

    public static void main(String[] args) {
        newObject();
        twoObjects();
        lastCall();
        names();
        letters();
        costs();
        fortyRules();
        parts();
        sizes();
        shares();
        onlyBounds();
        onlyOneAxis();
        onlyAtFirst();
        splitOfSizes();
        splitNothingLeft();
        splitCutAndOver();
        splitOverToSharesAlone();
        splitOneAtLeast();
        splitInOrder();
        repeatOneAtLeast();
        repeatOver();
        repeatAgainFromTheFirst();
        fillAlwaysFits();
        splitTakesTheCollected();
        splitWhenFull();
        clear();
        rule();
        holds();
        piece();
        Due.end("RulesEdgesTest");
    }

    private static void due(String call, long got, long want) {
        Due.due(call, got, want);
    }

    /** A part is a name and a size, or a share told as a number below 0. */
    private static int split(HouseFronts f, int name, boolean y, int cost, int... parts) {
        for (int i = 0; i + 1 < parts.length; i += 2) {
            f.part(parts[i], Math.abs(parts[i + 1]), parts[i + 1] < 0);
        }
        return f.split(name, y, cost);
    }

    /** The parts' lengths on a length along the axis, none if the rule does not hold, and that they lie in a row. */
    private static void laid(HouseFronts f, int rule, boolean y, int whole, int... lengths) {
        int wide = y ? 7 : whole;
        int high = y ? whole : 7;
        String on = " of rule " + rule + " on " + whole;
        due("holds" + on, f.holds(rule, wide, high), lengths.length > 0 ? 1 : 0);
        int begin = 0;
        for (int i = 0; i < lengths.length; i++) {
            due("length " + i + on, f.piece(rule, wide, high, i, true), lengths[i]);
            due("begin " + i + on, f.piece(rule, wide, high, i, false), begin);
            begin += lengths[i];
        }
        due("one more" + on, f.piece(rule, wide, high, lengths.length, true), lengths.length > 0 ? NONE : STATE);
    }

    private static void newObject() {
        Due.sentence("1: No RULES");
        HouseFronts f = new HouseFronts();
        due("count(0)", f.count(0), 0);
        due("clear()", f.clear(), 0);
        due("the first rule's number", f.fill(A, 1, 1), 0);
        Due.sentence("3, 1: LETTERS (at first 1 to 1, a)");
        HouseFronts g = new HouseFronts();
        due("wide", g.count(2), 1);
        due("high", g.count(3), 1);
        due("place 1", g.put(1, 0), -1);
        due("place 9", g.put(9, 0), -1);
        due("its letter", g.put(0, 4), 0);
        Due.sentence("1: nothing is collected, nothing was DRAWN, no draw() had a FAULT");
        HouseFronts h = new HouseFronts();
        due("count(1)", h.count(1), 0);
        due("the first part", h.part(A, 1, SHARE), 1);
        due("count(4)", h.count(4), 0);
        due("count(5)", h.count(5), 0);
        due("drawn()", h.drawn(), NONE);
        due("fault()", h.fault(), 0);
    }

    private static void twoObjects() {
        Due.sentence("1: A new object, whatever another one was told");
        HouseFronts used = new HouseFronts();
        used.fill(A, 4, 4);
        used.part(A, 1, SHARE);
        used.draw(3, 9, 9);
        used.take();
        used.draw(7, 1, 1);
        used.parses();
        HouseFronts f = new HouseFronts();
        int[] counts = {0, 0, 1, 1, 0, 0};
        for (int what = 0; what < counts.length; what++) {
            due("count(" + what + ")", f.count(what), counts[what]);
        }
        due("parses()", f.parses(), 0);
        due("ways", f.ways(A, 9, 9), 0);
        due("its letter", f.put(0, 1), 0);
        f.clear();
        f.board(2, 2);
        due("the other's rules", used.count(0), 1);
        due("the other's parses", used.parses(), 1);
    }

    private static void lastCall() {
        Due.sentence("An object is used for at most 512 calls");
        HouseFronts f = new HouseFronts();
        f.repeat(A, B, 1, X, 1);
        f.repeat(B, C, 1, Y, 1);
        f.fill(C, 0, 1);
        f.fill(C, 0, 1);
        f.board(9, 9);
        for (int call = 6; call < 510; call++) {
            if (call % 2 == 0) {
                f.put(call % 9, 0);
            } else {
                f.draw(call, 20, 20);
            }
        }
        due("call 510", f.draw(3, 20, 20), 421);
        due("call 511", f.bestStep(90), 2);
        due("call 512", f.best(), 91);
    }

    private static void names() {
        Due.sentence("1: NAMES are A .. H (0 .. 7)");
        for (int name : new int[] {A, H}) {
            HouseFronts f = new HouseFronts();
            due("fill", f.fill(name, 0, 0), 0);
            due("part", f.part(name, 1, SHARE), 1);
            due("split", f.split(name, X, 0), 1);
            due("repeat", f.repeat(name, A, 1, X, 0), 2);
            due("repeat of", f.repeat(B, name, 1, X, 0), 3);
            for (int r = 0; r < 3; r++) {
                due("name of " + r, f.rule(r, 0), name);
            }
            f.only(1, WIDE, 1, 1);
            f.only(2, WIDE, 1, 1);
            due("ways", f.ways(name, 2, 2), 1);
            due("least", f.least(name, 2, 2), 0);
            due("stands", f.stands(name, 0, 1, 1) != -1 ? 1 : 0, 1);
        }
    }

    private static void letters() {
        Due.sentence("1: LETTERS a .. z, 2: (0 .. 25), 20: (0 .. 25)");
        HouseFronts f = new HouseFronts();
        due("a", f.fill(A, 0, 0), 0);
        due("z", f.fill(B, 25, 0), 1);
        due("letter a", f.rule(0, 4), 0);
        due("letter z", f.rule(1, 4), 25);
        due("put z", f.put(0, 25), 0);
        due("B stands on z", f.stands(B, 0, 1, 1), 1);
        due("put a", f.put(0, 0), 25);
        due("A stands on a", f.stands(A, 0, 1, 1), 1);
    }

    private static void costs() {
        Due.sentence("1: a COST (0 .. 99)");
        HouseFronts f = new HouseFronts();
        int[] costs = {0, 99};
        for (int cost : costs) {
            int fill = f.fill(A, 0, cost);
            int split = split(f, A, X, cost, A, -1);
            int repeat = f.repeat(A, A, 1, X, cost);
            due("fill", f.rule(fill, 2), cost);
            due("split", f.rule(split, 2), cost);
            due("repeat", f.rule(repeat, 2), cost);
        }
    }

    private static void fortyRules() {
        Due.sentence("1: RULES 0, 1, .. (40 at most)");
        for (int last = 0; last < 3; last++) {
            HouseFronts f = new HouseFronts();
            f.part(A, 1, SHARE);
            for (int r = 0; r < 39; r++) {
                due("rule " + r, f.fill(r % 8, r % 26, r), r);
            }
            int got = last == 0 ? f.fill(A, 0, 0) : last == 1 ? f.split(A, X, 0) : f.repeat(A, B, 1, Y, 0);
            due("the fortieth", got, 39);
            due("40 of them", f.count(0), 40);
            due("the fortieth's kind", f.rule(39, 1), new int[] {0, 1, 4}[last]);
            due("another fill", f.fill(A, 0, 0), FULL);
            due("another repeat", f.repeat(A, B, 1, X, 0), FULL);
            f.part(A, 1, SHARE);
            due("another split", f.split(A, X, 0), FULL);
            due("rule 0 is as it was", f.rule(0, 2), 0);
            due("rule 38 is as it was", f.rule(38, 2), 38);
        }
    }

    private static void parts() {
        Due.sentence("1: to 1 to 6 PARTS");
        HouseFronts f = new HouseFronts();
        for (int number = 1; number <= 6; number++) {
            for (int i = 1; i <= number; i++) {
                due("part " + i, f.part(A, 1, SIZE), i);
            }
            int r = f.split(A, X, 0);
            due("parts of " + r, f.rule(r, 3), number);
            due("fits as long as it is", f.holds(r, number, 1), 1);
            due("the last one's begin", f.piece(r, number, 1, number - 1, false), number - 1);
        }
    }

    private static void sizes() {
        Due.sentence("1: a SIZE (1 to 20)");
        HouseFronts f = new HouseFronts();
        int one = split(f, A, X, 0, B, 1);
        int twenty = split(f, A, Y, 0, B, 20);
        laid(f, one, X, 1, 1);
        laid(f, one, X, 2);
        laid(f, twenty, Y, 20, 20);
        laid(f, twenty, Y, 19);
        due("a size of 10 is no share", f.part(B, 10, SIZE), 1);
        Due.sentence("1: REPEAT of a NAME by a SIZE (1 to 20)");
        int ones = f.repeat(A, B, 1, X, 0);
        int all = f.repeat(A, B, 20, Y, 0);
        laid(f, ones, X, 1, 1);
        laid(f, ones, X, 20, 1, 1, 1, 1, 1, 1, 1, 1, 1, 1, 1, 1, 1, 1, 1, 1, 1, 1, 1, 1);
        laid(f, all, Y, 20, 20);
    }

    private static void shares() {
        Due.sentence("1: a SHARE (1 to 9)");
        HouseFronts f = new HouseFronts();
        int r = split(f, A, X, 0, B, -9, C, -1);
        laid(f, r, X, 20, 18, 2);
        laid(f, r, X, 10, 9, 1);
        int most = split(f, A, Y, 0, B, -9, B, -9, B, -9, B, -9, B, -9, B, -9);
        laid(f, most, Y, 20, 4, 4, 3, 3, 3, 3);
    }

    private static void onlyBounds() {
        Due.sentence("1: whose width is from .. to, and height likewise");
        HouseFronts f = new HouseFronts();
        int[][] bounds = {{1, 1}, {20, 20}, {1, 20}, {2, 19}, {7, 7}, {7, 8}};
        for (int[] bound : bounds) {
            for (boolean high : new boolean[] {WIDE, HIGH}) {
                int r = f.fill(A, 0, 0);
                due("only", f.only(r, high, bound[0], bound[1]), 1);
                for (int side : new int[] {1, 2, 6, 7, 8, 9, 19, 20}) {
                    due("side " + side, f.holds(r, high ? 5 : side, high ? side : 5), side >= bound[0] && side <= bound[1] ? 1 : 0);
                }
            }
        }
    }

    private static void onlyOneAxis() {
        Due.sentence("6: for widths, heights (high = true) from .. to alone");
        HouseFronts f = new HouseFronts();
        f.fill(A, 0, 0);
        f.fill(A, 0, 0);
        f.only(0, WIDE, 3, 4);
        due("another height", f.holds(0, 3, 20), 1);
        due("another rule", f.holds(1, 20, 20), 1);
        f.only(0, HIGH, 5, 6);
        due("widths stay", f.holds(0, 2, 5), 0);
        due("both", f.holds(0, 4, 6), 1);
        f.only(0, WIDE, 9, 10);
        due("the former widths are gone", f.holds(0, 4, 6), 0);
        due("the new widths", f.holds(0, 9, 6), 1);
        due("the heights stay", f.holds(0, 9, 7), 0);
        due("ways of the two", f.ways(A, 10, 5), 2);
        due("ways of the one", f.ways(A, 10, 4), 1);
    }

    private static void onlyAtFirst() {
        Due.sentence("1: (1 .. 20 at first)");
        HouseFronts f = new HouseFronts();
        for (int round = 0; round < 2; round++) {
            int fill = f.fill(A, 0, 0);
            int split = split(f, A, X, 0, B, -1);
            int repeat = f.repeat(A, B, 1, Y, 0);
            for (int r : new int[] {fill, split, repeat}) {
                due("1 to 1", f.holds(r, 1, 1), 1);
                due("20 to 20", f.holds(r, 20, 20), 1);
                due("1 to 20", f.holds(r, 1, 20), 1);
                due("20 to 1", f.holds(r, 20, 1), 1);
                f.only(r, WIDE, 2, 19);
                f.only(r, HIGH, 2, 19);
            }
            // rules of the same numbers are made anew
            f.clear();
        }
    }

    private static void splitOfSizes() {
        Due.sentence("1 SPLIT: if there is no SHARE, nothing is left");
        HouseFronts f = new HouseFronts();
        int along = split(f, A, X, 0, B, 2, C, 5);
        int up = split(f, A, Y, 0, B, 5, C, 1, D, 2);
        laid(f, along, X, 6);
        laid(f, along, X, 7, 2, 5);
        laid(f, along, X, 8);
        laid(f, up, Y, 7);
        laid(f, up, Y, 8, 5, 1, 2);
        laid(f, up, Y, 9);
        int long20 = split(f, A, X, 0, B, 14, C, 6);
        laid(f, long20, X, 20, 14, 6);
        int longer = split(f, A, X, 0, B, 20, C, 1);
        laid(f, longer, X, 20);
        int longest = split(f, A, X, 0, B, 20, B, 20, B, 20, B, 20, B, 20, B, 20);
        laid(f, longest, X, 20);
    }

    private static void splitNothingLeft() {
        Due.sentence("1 SPLIT: of its length along the axis the SIZES are taken");
        HouseFronts f = new HouseFronts();
        int r = split(f, A, X, 0, B, 3, C, -2, D, 4);
        laid(f, r, X, 20, 3, 13, 4);
        laid(f, r, X, 9, 3, 2, 4);
        Due.sentence("1 SPLIT: each PART is 1 at least: one is left");
        laid(f, r, X, 8, 3, 1, 4);
        Due.sentence("1 SPLIT: each PART is 1 at least: nothing is left");
        laid(f, r, X, 7);
        Due.sentence("1 SPLIT: of its length the SIZES are taken: it is too small for them");
        laid(f, r, X, 6);
        laid(f, r, X, 1);
        int all = split(f, A, X, 0, B, 20, C, -1);
        laid(f, all, X, 20);
    }

    private static void splitCutAndOver() {
        Due.sentence("1 SPLIT: each SHARE gets what is left times it by all SHARES, cut");
        HouseFronts f = new HouseFronts();
        int r = split(f, A, X, 0, B, -1, C, -2, D, -3);
        laid(f, r, X, 6, 1, 2, 3);
        laid(f, r, X, 12, 2, 4, 6);
        laid(f, r, X, 18, 3, 6, 9);
        Due.sentence("1 SPLIT: those that are over go one each to the first PARTS with SHARES");
        // 7: 7/6, 14/6, 21/6 cut are 1, 2, 3; one is over
        laid(f, r, X, 7, 2, 2, 3);
        // 8: 8/6, 16/6, 24/6 cut are 1, 2, 4; one is over
        laid(f, r, X, 8, 2, 2, 4);
        // 11: 11/6, 22/6, 33/6 cut are 1, 3, 5; two are over
        laid(f, r, X, 11, 2, 4, 5);
        int like = split(f, A, Y, 0, B, -1, C, -1, D, -1);
        laid(f, like, Y, 10, 4, 3, 3);
        laid(f, like, Y, 11, 4, 4, 3);
        int six = split(f, A, Y, 0, B, -1, B, -1, B, -1, B, -1, B, -1, B, -1);
        laid(f, six, Y, 17, 3, 3, 3, 3, 3, 2);
    }

    private static void splitOverToSharesAlone() {
        Due.sentence("1 SPLIT: those that are over go to PARTS with SHARES: not to those with SIZES");
        HouseFronts f = new HouseFronts();
        int r = split(f, A, X, 0, B, 2, C, -1, D, 1, C, -1, B, 3, C, -1);
        // 14 less 6 is 8: 2, 2, 2 and two over
        laid(f, r, X, 14, 2, 3, 1, 3, 3, 2);
        laid(f, r, X, 13, 2, 3, 1, 2, 3, 2);
        laid(f, r, X, 9, 2, 1, 1, 1, 3, 1);
    }

    private static void splitOneAtLeast() {
        Due.sentence("1 SPLIT: and each PART is 1 at least");
        HouseFronts f = new HouseFronts();
        int like = split(f, A, X, 0, B, -5, C, -5);
        // the one that is over makes the first 1, the second stays 0
        laid(f, like, X, 1);
        laid(f, like, X, 2, 1, 1);
        int apart = split(f, A, Y, 0, B, -1, C, -9);
        // 2: 2/10, 18/10 cut are 0, 1; the one that is over goes to the first
        laid(f, apart, Y, 2, 1, 1);
        laid(f, apart, Y, 1);
        int back = split(f, A, Y, 0, B, -9, C, -1);
        // 9: 81/10, 9/10 cut are 8, 0; the one that is over goes to the first
        laid(f, back, Y, 9);
        laid(f, back, Y, 10, 9, 1);
    }

    private static void splitInOrder() {
        Due.sentence("1 SPLIT: PARTS lie from the lowest place on, in order");
        HouseFronts f = new HouseFronts();
        split(f, A, X, 0, B, 1, C, -1, B, 1);
        split(f, C, Y, 0, B, 1, D, -1);
        f.fill(B, 1, 0);
        f.fill(D, 3, 0);
        f.draw(0, 4, 3);
        int[][] rows = {{1, 1, 1, 1}, {1, 3, 3, 1}, {1, 3, 3, 1}};
        for (int y = 0; y < 3; y++) {
            for (int x = 0; x < 4; x++) {
                due("at(" + x + ", " + y + ")", f.at(x, y), rows[y][x]);
            }
        }
    }

    private static void repeatOneAtLeast() {
        Due.sentence("1 REPEAT: as many as go into the length by SIZE, cut");
        HouseFronts f = new HouseFronts();
        int r = f.repeat(A, B, 5, X, 0);
        laid(f, r, X, 5, 5);
        laid(f, r, X, 10, 5, 5);
        laid(f, r, X, 20, 5, 5, 5, 5);
        Due.sentence("1 REPEAT: one at least");
        laid(f, r, X, 4);
        laid(f, r, X, 1);
        int up = f.repeat(A, B, 20, Y, 0);
        laid(f, up, Y, 19);
        laid(f, up, Y, 20, 20);
    }

    private static void repeatOver() {
        Due.sentence("1 REPEAT: those that are over go one each to the first ones");
        HouseFronts f = new HouseFronts();
        int r = f.repeat(A, B, 5, Y, 0);
        laid(f, r, Y, 6, 6);
        laid(f, r, Y, 11, 6, 5);
        laid(f, r, Y, 12, 6, 6);
        laid(f, r, Y, 17, 6, 6, 5);
        laid(f, r, Y, 19, 7, 6, 6);
    }

    private static void repeatAgainFromTheFirst() {
        Due.sentence("1 REPEAT: (again from the first, if there are more)");
        HouseFronts f = new HouseFronts();
        int five = f.repeat(A, B, 5, X, 0);
        laid(f, five, X, 7, 7);
        laid(f, five, X, 9, 9);
        laid(f, five, X, 13, 7, 6);
        laid(f, five, X, 14, 7, 7);
        int ten = f.repeat(A, B, 10, Y, 0);
        laid(f, ten, Y, 19, 19);
        int seven = f.repeat(A, B, 7, X, 0);
        laid(f, seven, X, 19, 10, 9);
        laid(f, seven, X, 20, 10, 10);
    }

    private static void fillAlwaysFits() {
        Due.sentence("1: FILL always FITS");
        HouseFronts f = new HouseFronts();
        f.fill(A, 0, 0);
        for (int side = 1; side <= 20; side++) {
            due("wide " + side, f.holds(0, side, 21 - side), 1);
            due("square " + side, f.holds(0, side, side), 1);
        }
    }

    private static void splitTakesTheCollected() {
        Due.sentence("4: to the PARTS that are collected, none of which is then");
        HouseFronts f = new HouseFronts();
        f.part(B, 2, SIZE);
        f.part(C, 1, SHARE);
        int r = f.split(A, X, 0);
        due("count(1)", f.count(1), 0);
        due("another one", f.split(A, X, 0), STATE);
        due("the next part is the first", f.part(D, 4, SIZE), 1);
        f.split(A, X, 0);
        laid(f, r, X, 9, 2, 7);
        laid(f, r + 1, X, 4, 4);
        Due.sentence("5: a REPEAT is none of the PARTS collected");
        f.part(B, 2, SIZE);
        f.repeat(A, B, 1, X, 0);
        f.fill(A, 0, 0);
        due("count(1) after a repeat and a fill", f.count(1), 1);
    }

    private static void splitWhenFull() {
        Due.sentence("3: how many are collected: with 40 RULES too");
        HouseFronts f = new HouseFronts();
        for (int r = 0; r < 40; r++) {
            f.fill(A, 0, 0);
        }
        for (int i = 1; i <= 6; i++) {
            due("part " + i, f.part(B, i, SIZE), i);
        }
        due("a seventh", f.part(B, 1, SIZE), FULL);
        due("split", f.split(A, X, 0), FULL);
        due("they stay collected", f.count(1), 6);
        f.clear();
        due("but for a clear()", f.count(1), 0);
    }

    private static void clear() {
        Due.sentence("7: There are no RULES");
        HouseFronts f = new HouseFronts();
        for (int r = 0; r < 40; r++) {
            f.fill(r % 8, 1, 1);
        }
        f.part(A, 1, SHARE);
        f.draw(9, 3, 2);
        f.take();
        due("ways", f.ways(A, 3, 2), 5);
        due("parses", f.parses(), 5);
        f.only(0, WIDE, 3, 4);
        Due.sentence("7: how many RULES there were");
        due("clear()", f.clear(), 40);
        due("clear() again", f.clear(), 0);
        Due.sentence("7: There are no RULES: what they did is gone");
        due("count(0)", f.count(0), 0);
        due("rule(0, 0)", f.rule(0, 0), -1);
        due("ways", f.ways(A, 3, 2), 0);
        due("least", f.least(A, 3, 2), NONE);
        due("parses", f.parses(), 0);
        due("best", f.best(), NONE);
        due("bestStep", f.bestStep(0), NONE);
        due("stands", f.stands(A, 0, 1, 1), 0);
        due("draw", f.draw(1, 1, 1), -101);
        Due.sentence("7: no PARTS collected");
        due("count(1)", f.count(1), 0);
        due("split", f.split(A, X, 0), STATE);
        Due.sentence("7: nothing is DRAWN");
        due("count(4)", f.count(4), 0);
        due("count(5)", f.count(5), 0);
        due("at(0, 0)", f.at(0, 0), NONE);
        due("step(0)", f.step(0), NONE);
        due("drawn()", f.drawn(), NONE);
        due("take()", f.take(), STATE);
        Due.sentence("7: THE BOARD is not named: it stays");
        due("wide", f.count(2), 3);
        due("high", f.count(3), 2);
        due("its letter", f.put(11, 1), 1);
        Due.sentence("7: RULES 0, 1, .. (40 at most) once more");
        for (int r = 0; r < 40; r++) {
            due("rule " + r, f.fill(A, 2, 0), r);
        }
        due("the 41st", f.fill(A, 2, 0), FULL);
        due("a former bound is gone", f.holds(0, 20, 20), 1);
        numbersUsedAgain();
    }

    private static void numbersUsedAgain() {
        Due.sentence("7: There are no RULES: of what a number stood for nothing is left");
        HouseFronts f = new HouseFronts();
        split(f, A, X, 9, B, -3, C, 2, D, -1);
        f.fill(B, 25, 9);
        f.repeat(C, D, 4, Y, 9);
        f.part(A, 9, SHARE);
        f.clear();
        int sizes = split(f, B, X, 1, C, 3, D, 1);
        int shares = split(f, B, Y, 1, C, -1);
        int fill = f.fill(A, 3, 0);
        laid(f, sizes, X, 4, 3, 1);
        laid(f, sizes, X, 5);
        laid(f, shares, Y, 5, 5);
        due("a split has no letter", f.rule(shares, 4), NONE);
        due("a fill has no part", f.rule(fill, 3), 0);
        due("a fill is not laid", f.piece(fill, 9, 9, 0, true), NONE);
        due("its kind", f.rule(fill, 1), 0);
        f.clear();
        int repeat = f.repeat(A, B, 2, X, 0);
        int share = split(f, B, X, 1, C, -3, D, 1);
        laid(f, repeat, X, 5, 3, 2);
        laid(f, share, X, 5, 4, 1);
    }

    private static void rule() {
        Due.sentence("8: how many PARTS (3; FILL 0, REPEAT 1)");
        HouseFronts f = new HouseFronts();
        int fill = f.fill(A, 25, 0);
        int repeat = f.repeat(A, B, 1, X, 0);
        int one = split(f, A, X, 0, B, -1);
        int six = split(f, A, Y, 0, B, -1, B, -1, B, -1, B, -1, B, -1, B, -1);
        int up = f.repeat(A, B, 20, Y, 0);
        due("fill", f.rule(fill, 3), 0);
        due("repeat", f.rule(repeat, 3), 1);
        due("repeat along y", f.rule(up, 3), 1);
        due("split to one", f.rule(one, 3), 1);
        due("split to six", f.rule(six, 3), 6);
        Due.sentence("8: its LETTER (4; NONE)");
        due("fill", f.rule(fill, 4), 25);
        for (int r : new int[] {repeat, one, six, up}) {
            due("no fill " + r, f.rule(r, 4), NONE);
        }
        Due.sentence("1: a KIND: 0 FILL, 1 SPLIT along x, 2 along y, 3 REPEAT along x, 4 along y");
        due("fill", f.rule(fill, 1), 0);
        due("split along x", f.rule(one, 1), 1);
        due("split along y", f.rule(six, 1), 2);
        due("repeat along x", f.rule(repeat, 1), 3);
        due("repeat along y", f.rule(up, 1), 4);
    }

    private static void holds() {
        Due.sentence("9: Whether a RULE holds for a SCOPE (1 to 20 each)");
        HouseFronts f = new HouseFronts();
        int along = f.repeat(A, B, 3, X, 0);
        int up = split(f, A, Y, 0, B, 1, C, 2);
        for (int side = 1; side <= 20; side++) {
            due("along x, " + side, f.holds(along, side, 21 - side), side >= 3 ? 1 : 0);
            due("along y, " + side, f.holds(up, 21 - side, side), side == 3 ? 1 : 0);
        }
    }

    private static void piece() {
        Due.sentence("10: Where PART i begins along its axis, how long it is");
        HouseFronts f = new HouseFronts();
        int r = split(f, A, Y, 0, B, 4, C, -1);
        due("the first begins at 0", f.piece(r, 20, 20, 0, false), 0);
        due("the first is as long as its size", f.piece(r, 1, 20, 0, true), 4);
        due("the last begins", f.piece(r, 20, 20, 1, false), 4);
        due("the last is long", f.piece(r, 20, 20, 1, true), 16);
        Due.sentence("10: NONE: there is no such PART");
        due("part 2", f.piece(r, 20, 20, 2, true), NONE);
        int repeat = f.repeat(A, B, 6, X, 0);
        due("a repeat's part 2 of 18", f.piece(repeat, 18, 1, 2, false), 12);
        due("a repeat's part 2 of 17", f.piece(repeat, 17, 1, 2, false), NONE);
        due("a fill's part 0", f.piece(f.fill(A, 0, 0), 1, 1, 0, true), NONE);
    }
}
