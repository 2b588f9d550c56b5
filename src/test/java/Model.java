import java.math.BigInteger;
import java.util.ArrayList;
import java.util.HashMap;
import java.util.List;
import java.util.Map;

/** The document said once more, in the slowest and most literal way, to compare the class with. */
final class Model {
    private static final int UNKNOWN = -1, OUTSIDE = -2, STATE = -3, FULL = -4, NONE = -9, ENDLESS = -10;
    private static final BigInteger MOST = BigInteger.TEN.pow(18);
    /** Chains of rules on one scope: a finite count has none of more than 8 places; an endless one has some of 11 to 20. */
    private static final int SHORT_CHAIN = 10, LONG_CHAIN = 20;

    private static final class Rule {
        int name, kind, cost, letter = NONE;
        int fromWide = 1, toWide = 20, fromHigh = 1, toHigh = 20;
        /** name, size, share; the missing one is 0. */
        List<int[]> parts = new ArrayList<>();
    }

    private record Best(int cost, List<Integer> steps) {
        boolean isBefore(Best other) {
            if (other == null || cost != other.cost) {
                return other == null || cost < other.cost;
            }
            if (steps.size() != other.steps.size()) {
                return steps.size() < other.steps.size();
            }
            for (int i = 0; i < steps.size(); i++) {
                if (!steps.get(i).equals(other.steps.get(i))) {
                    return steps.get(i) < other.steps.get(i);
                }
            }
            return false;
        }
    }

    private static final class Fault extends RuntimeException {
        private static final long serialVersionUID = 1;
        final int kind, key;

        Fault(int kind, int key) {
            this.kind = kind;
            this.key = key;
        }
    }

    private final List<Rule> rules = new ArrayList<>();
    private List<int[]> collected = new ArrayList<>();
    private int[][] drawn = null;
    private List<Integer> drawnSteps = new ArrayList<>();
    private int drawnCost = NONE;
    private int faultKey = 0;
    private int[][] board = new int[1][1];
    private final Map<String, BigInteger> counted = new HashMap<>();
    private final Map<String, Best> found = new HashMap<>();
    private boolean lettered = false;

    int fill(int name, int letter, int cost) {
        if (name < 0 || name > 7) return UNKNOWN;
        if (letter < 0 || letter > 25 || cost < 0 || cost > 99) return OUTSIDE;
        if (rules.size() == 40) return FULL;
        Rule rule = add(name, 0, cost);
        rule.letter = letter;
        return rules.size() - 1;
    }

    int part(int name, int v, boolean share) {
        if (name < 0 || name > 7) return UNKNOWN;
        if (v < 1 || v > (share ? 9 : 20)) return OUTSIDE;
        if (collected.size() == 6) return FULL;
        collected.add(share ? new int[] {name, 0, v} : new int[] {name, v, 0});
        return collected.size();
    }

    int split(int name, boolean y, int cost) {
        if (name < 0 || name > 7) return UNKNOWN;
        if (cost < 0 || cost > 99) return OUTSIDE;
        if (collected.isEmpty()) return STATE;
        if (rules.size() == 40) return FULL;
        add(name, y ? 2 : 1, cost).parts = collected;
        collected = new ArrayList<>();
        return rules.size() - 1;
    }

    int repeat(int name, int of, int size, boolean y, int cost) {
        if (name < 0 || name > 7 || of < 0 || of > 7) return UNKNOWN;
        if (size < 1 || size > 20 || cost < 0 || cost > 99) return OUTSIDE;
        if (rules.size() == 40) return FULL;
        add(name, y ? 4 : 3, cost).parts.add(new int[] {of, size, 0});
        return rules.size() - 1;
    }

    private Rule add(int name, int kind, int cost) {
        Rule rule = new Rule();
        rule.name = name;
        rule.kind = kind;
        rule.cost = cost;
        rules.add(rule);
        return rule;
    }

    int only(int rule, boolean high, int from, int to) {
        if (rule < 0 || rule >= rules.size()) return UNKNOWN;
        if (from < 1 || from > 20 || to < 1 || to > 20 || from > to) return OUTSIDE;
        Rule limited = rules.get(rule);
        if (high) {
            limited.fromHigh = from;
            limited.toHigh = to;
        } else {
            limited.fromWide = from;
            limited.toWide = to;
        }
        return 1;
    }

    int clear() {
        int were = rules.size();
        rules.clear();
        collected = new ArrayList<>();
        drawn = null;
        drawnSteps = new ArrayList<>();
        drawnCost = NONE;
        return were;
    }

    int rule(int rule, int what) {
        if (rule < 0 || rule >= rules.size()) return UNKNOWN;
        Rule told = rules.get(rule);
        return switch (what) {
            case 0 -> told.name;
            case 1 -> told.kind;
            case 2 -> told.cost;
            case 3 -> told.parts.size();
            case 4 -> told.letter;
            default -> OUTSIDE;
        };
    }

    int holds(int rule, int wide, int high) {
        if (rule < 0 || rule >= rules.size()) return UNKNOWN;
        if (!isScope(wide, high)) return OUTSIDE;
        return places(rules.get(rule), 0, 0, wide, high) == null ? 0 : 1;
    }

    int piece(int rule, int wide, int high, int i, boolean length) {
        if (rule < 0 || rule >= rules.size()) return UNKNOWN;
        if (!isScope(wide, high)) return OUTSIDE;
        List<int[]> places = places(rules.get(rule), 0, 0, wide, high);
        if (places == null) return STATE;
        if (i < 0 || i >= places.size()) return NONE;
        int[] place = places.get(i);
        boolean y = rules.get(rule).kind % 2 == 0;
        return length ? place[y ? 4 : 3] : place[y ? 2 : 1];
    }

    int draw(int seed, int wide, int high) {
        if (!isScope(wide, high)) return OUTSIDE;
        int[][] letters = new int[wide][high];
        List<Integer> steps = new ArrayList<>();
        try {
            grow(letters, steps, new int[] {0, 0, 0, wide, high}, seed, 0);
        } catch (Fault fault) {
            faultKey = fault.key;
            return -100 - fault.kind;
        }
        faultKey = 0;
        drawn = letters;
        drawnSteps = steps;
        drawnCost = 0;
        for (int r : steps) drawnCost += rules.get(r).cost;
        return steps.size();
    }

    private void grow(int[][] letters, List<Integer> steps, int[] place, int key, int above) {
        if (above >= 20) throw new Fault(2, key);
        List<Integer> holding = new ArrayList<>();
        for (int r = 0; r < rules.size(); r++) {
            Rule rule = rules.get(r);
            if (rule.name == place[0] && places(rule, 0, 0, place[3], place[4]) != null) holding.add(r);
        }
        if (holding.isEmpty()) throw new Fault(1, key);
        int mixed = (int) (key * 1103515245L + 12345L);
        int chosen = holding.get(((mixed >> 16) & ((1 << 15) - 1)) % holding.size());
        steps.add(chosen);
        Rule rule = rules.get(chosen);
        if (rule.kind == 0) {
            for (int x = place[1]; x < place[1] + place[3]; x++) {
                for (int y = place[2]; y < place[2] + place[4]; y++) letters[x][y] = rule.letter;
            }
        }
        int i = 0;
        for (int[] part : places(rule, place[1], place[2], place[3], place[4])) {
            grow(letters, steps, part, (int) (31L * key + i + 1), above + 1);
            i++;
        }
    }

    int at(int x, int y) {
        if (drawn == null || x < 0 || x >= drawn.length || y < 0 || y >= drawn[0].length) return NONE;
        return drawn[x][y];
    }

    int step(int i) {
        return i < 0 || i >= drawnSteps.size() ? NONE : drawnSteps.get(i);
    }

    int drawn() {
        return drawnCost;
    }

    int fault() {
        return faultKey;
    }

    int take() {
        if (drawn == null || drawn.length > 9 || drawn[0].length > 9) return STATE;
        board = new int[drawn.length][drawn[0].length];
        for (int x = 0; x < drawn.length; x++) board[x] = drawn[x].clone();
        return 1;
    }

    long ways(int name, int wide, int high) {
        if (name < 0 || name > 7) return UNKNOWN;
        if (!isScope(wide, high)) return OUTSIDE;
        return ways(false, name, 0, 0, wide, high);
    }

    int least(int name, int wide, int high) {
        if (name < 0 || name > 7) return UNKNOWN;
        if (!isScope(wide, high)) return OUTSIDE;
        Best best = best(false, name, 0, 0, wide, high);
        return best == null ? NONE : best.cost;
    }

    int board(int wide, int high) {
        if (wide < 1 || wide > 9 || high < 1 || high > 9) return OUTSIDE;
        board = new int[wide][high];
        return 1;
    }

    int put(int place, int letter) {
        if (!isPlace(place)) return UNKNOWN;
        if (letter < 0 || letter > 25) return OUTSIDE;
        int was = board[place % 9][place / 9];
        board[place % 9][place / 9] = letter;
        return was;
    }

    long parses() {
        return ways(true, 0, 0, 0, board.length, board[0].length);
    }

    int best() {
        Best best = best(true, 0, 0, 0, board.length, board[0].length);
        return best == null ? NONE : best.cost;
    }

    int bestStep(int i) {
        Best best = best(true, 0, 0, 0, board.length, board[0].length);
        return best == null || i < 0 || i >= best.steps.size() ? NONE : best.steps.get(i);
    }

    long stands(int name, int place, int wide, int high) {
        if (name < 0 || name > 7 || !isPlace(place)) return UNKNOWN;
        int x = place % 9, y = place / 9;
        if (wide < 1 || high < 1 || (long) x + wide > board.length || (long) y + high > board[0].length) return OUTSIDE;
        return ways(true, name, x, y, wide, high);
    }

    int count(int what) {
        return switch (what) {
            case 0 -> rules.size();
            case 1 -> collected.size();
            case 2 -> board.length;
            case 3 -> board[0].length;
            case 4 -> drawn == null ? 0 : drawn.length;
            case 5 -> drawn == null ? 0 : drawn[0].length;
            default -> OUTSIDE;
        };
    }

    private boolean isPlace(int place) {
        return place >= 0 && place % 9 < board.length && place / 9 < board[0].length;
    }

    private static boolean isScope(int wide, int high) {
        return wide >= 1 && wide <= 20 && high >= 1 && high <= 20;
    }

    /** The places (name, x, y, wide, high) of a rule's parts; null if it does not hold. */
    private static List<int[]> places(Rule rule, int x, int y, int wide, int high) {
        if (wide < rule.fromWide || wide > rule.toWide || high < rule.fromHigh || high > rule.toHigh) return null;
        List<int[]> places = new ArrayList<>();
        if (rule.kind == 0) return places;
        boolean alongY = rule.kind == 2 || rule.kind == 4;
        int whole = alongY ? high : wide;
        List<Integer> lengths = rule.kind <= 2 ? splitLengths(rule, whole) : repeatLengths(rule, whole);
        if (lengths == null) return null;
        int from = 0;
        for (int i = 0; i < lengths.size(); i++) {
            int name = rule.parts.get(rule.kind <= 2 ? i : 0)[0];
            int length = lengths.get(i);
            places.add(alongY ? new int[] {name, x, y + from, wide, length} : new int[] {name, x + from, y, length, high});
            from += length;
        }
        return places;
    }

    private static List<Integer> splitLengths(Rule rule, int whole) {
        int left = whole, shares = 0;
        for (int[] part : rule.parts) {
            left -= part[1];
            shares += part[2];
        }
        if (left < 0 || (shares == 0 && left > 0)) return null;
        int over = left;
        List<Integer> lengths = new ArrayList<>();
        for (int[] part : rule.parts) {
            int length = part[2] == 0 ? part[1] : left * part[2] / shares;
            if (part[2] != 0) over -= length;
            lengths.add(length);
        }
        for (int i = 0; over > 0; i++) {
            if (rule.parts.get(i)[2] == 0) continue;
            lengths.set(i, lengths.get(i) + 1);
            over--;
        }
        for (int length : lengths) {
            if (length < 1) return null;
        }
        return lengths;
    }

    private static List<Integer> repeatLengths(Rule rule, int whole) {
        int size = rule.parts.get(0)[1];
        List<Integer> lengths = new ArrayList<>();
        int over = whole;
        for (; over >= size; over -= size) lengths.add(size);
        if (lengths.isEmpty()) return null;
        for (int i = 0; over > 0; i++, over--) {
            int at = i % lengths.size();
            lengths.set(at, lengths.get(at) + 1);
        }
        return lengths;
    }

    private long ways(boolean onBoard, int name, int x, int y, int wide, int high) {
        lettered = onBoard;
        counted.clear();
        int[] place = {name, x, y, wide, high};
        BigInteger fewer = count(place, SHORT_CHAIN, SHORT_CHAIN);
        counted.clear();
        BigInteger more = count(place, LONG_CHAIN, LONG_CHAIN);
        return fewer.equals(more) ? fewer.min(MOST).longValue() : ENDLESS;
    }

    private boolean isFilled(int letter, int[] place) {
        for (int x = place[1]; lettered && x < place[1] + place[3]; x++) {
            for (int y = place[2]; y < place[2] + place[4]; y++) {
                if (board[x][y] != letter) return false;
            }
        }
        return true;
    }

    private static String keyOf(int[] place, int chain) {
        return place[0] + "," + place[1] + "," + place[2] + "," + place[3] + "," + place[4] + "," + chain;
    }

    /** How many derivations there are that have at most so many places in a row on one scope. */
    private BigInteger count(int[] place, int chain, int longest) {
        if (chain == 0) return BigInteger.ZERO;
        String key = keyOf(place, chain);
        BigInteger known = counted.get(key);
        if (known != null) return known;
        BigInteger sum = BigInteger.ZERO;
        for (Rule rule : rules) {
            if (rule.name != place[0]) continue;
            List<int[]> places = places(rule, place[1], place[2], place[3], place[4]);
            if (places == null || (rule.kind == 0 && !isFilled(rule.letter, place))) continue;
            BigInteger product = BigInteger.ONE;
            for (int[] part : places) {
                product = product.multiply(count(part, places.size() == 1 ? chain - 1 : longest, longest));
                if (product.signum() == 0) break;
            }
            sum = sum.add(product);
        }
        counted.put(key, sum);
        return sum;
    }

    private Best best(boolean onBoard, int name, int x, int y, int wide, int high) {
        lettered = onBoard;
        found.clear();
        return best(new int[] {name, x, y, wide, high}, SHORT_CHAIN);
    }

    private Best best(int[] place, int chain) {
        if (chain == 0) return null;
        String key = keyOf(place, chain);
        if (found.containsKey(key)) return found.get(key);
        Best best = null;
        for (int r = 0; r < rules.size(); r++) {
            Rule rule = rules.get(r);
            if (rule.name != place[0]) continue;
            List<int[]> places = places(rule, place[1], place[2], place[3], place[4]);
            if (places == null || (rule.kind == 0 && !isFilled(rule.letter, place))) continue;
            Best made = made(r, rule.cost, places, chain);
            if (made != null && made.isBefore(best)) best = made;
        }
        found.put(key, best);
        return best;
    }

    private Best made(int r, int cost, List<int[]> places, int chain) {
        List<Integer> steps = new ArrayList<>();
        steps.add(r);
        for (int[] part : places) {
            Best below = best(part, places.size() == 1 ? chain - 1 : SHORT_CHAIN);
            if (below == null) return null;
            cost += below.cost;
            steps.addAll(below.steps);
        }
        return new Best(cost, steps);
    }

    /** All parses of at most so many rules, written out one by one; the best of them, or null. */
    List<Integer> bestWrittenOut(int most) {
        lettered = true;
        Best best = null;
        for (List<Integer> steps : writtenOut(new int[] {0, 0, 0, board.length, board[0].length}, most)) {
            int cost = 0;
            for (int r : steps) cost += rules.get(r).cost;
            Best one = new Best(cost, steps);
            if (one.isBefore(best)) best = one;
        }
        return best == null ? null : best.steps;
    }

    private List<List<Integer>> writtenOut(int[] place, int most) {
        List<List<Integer>> all = new ArrayList<>();
        if (most <= 0) return all;
        for (int r = 0; r < rules.size(); r++) {
            Rule rule = rules.get(r);
            if (rule.name != place[0]) continue;
            List<int[]> places = places(rule, place[1], place[2], place[3], place[4]);
            if (places == null || (rule.kind == 0 && !isFilled(rule.letter, place))) continue;
            List<List<Integer>> begun = new ArrayList<>();
            begun.add(List.of(r));
            for (int i = 0; i < places.size(); i++) {
                List<List<Integer>> longer = new ArrayList<>();
                for (List<Integer> begin : begun) {
                    int still = places.size() - i - 1;
                    for (List<Integer> end : writtenOut(places.get(i), most - begin.size() - still)) {
                        List<Integer> both = new ArrayList<>(begin);
                        both.addAll(end);
                        longer.add(both);
                    }
                }
                begun = longer;
            }
            all.addAll(begun);
        }
        return all;
    }
}
