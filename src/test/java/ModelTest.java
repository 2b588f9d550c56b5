import java.util.List;

/** Long runs of calls by a number of their own, each answer compared with that of the model. */
public final class ModelTest {
    /** An object is used for 512 calls; what is begun after call 490 may need some 20 more. */
    private static final int CALLS = 490;
    private long state;
    private HouseFronts fronts;
    private Model model;
    private int names, letters, scope, boardSide, sizes, costs;
    private String run;
    private int call;

    public static void main(String[] args) {
        int runs = args.length > 1 ? Integer.parseInt(args[1]) : 60;
        int first = args.length > 2 ? Integer.parseInt(args[2]) : 0;
        for (int i = first; i < first + runs; i++) {
            new ModelTest().run(i);
        }
        Due.end("ModelTest");
    }

    private int below(int n) {
        state = state * 6364136223846793005L + 1442695040888963407L;
        return (int) ((state >>> 33) % n);
    }

    private int from(int low, int high) {
        return low + below(high - low + 1);
    }

    private boolean rarely(int oneIn) {
        return below(oneIn) == 0;
    }

    private int any() {
        int[] odd = {-1, 0, Integer.MIN_VALUE, Integer.MAX_VALUE, 8, 10, 21, 26, 40, 81, 100, -9, 1 << 30};
        return odd[below(odd.length)];
    }

    /** A number in the bounds, seldom one that may lie beyond. */
    private int some(int low, int high) {
        return rarely(60) ? any() : from(low, high);
    }

    private void run(int number) {
        state = number * 7919L + 17;
        for (int i = 0; i < 5; i++) below(2);
        names = from(1, rarely(4) ? 8 : 3);
        letters = from(1, 3);
        scope = rarely(6) ? 20 : from(2, 8);
        boardSide = rarely(5) ? 9 : from(2, 5);
        sizes = from(1, 4);
        costs = rarely(2) ? 1 : from(2, 99);
        run = "run " + number;
        fronts = new HouseFronts();
        model = new Model();
        while (call < CALLS) {
            if (call < 12 && rarely(2) || rarely(9)) {
                changeRules();
            } else if (rarely(120)) {
                due("clear()", fronts.clear(), model.clear());
            } else {
                ask();
            }
        }
    }

    private void due(String what, long got, long want) {
        Due.due(run + ", call " + call + ": " + what, got, want);
        call++;
    }

    private int name() {
        return rarely(80) ? any() : below(names);
    }

    private void changeRules() {
        int name = name();
        int cost = rarely(40) ? any() : below(costs + 1);
        boolean y = rarely(2);
        switch (below(6)) {
            case 0, 1 -> {
                int letter = rarely(60) ? any() : below(letters);
                due("fill(" + name + ", " + letter + ", " + cost + ")",
                        fronts.fill(name, letter, cost), model.fill(name, letter, cost));
            }
            case 2 -> {
                int of = name();
                int size = some(1, sizes);
                due("repeat(" + name + ", " + of + ", " + size + ", " + y + ", " + cost + ")",
                        fronts.repeat(name, of, size, y, cost), model.repeat(name, of, size, y, cost));
            }
            case 3 -> {
                int rule = some(0, Math.max(0, model.count(0) - 1));
                int low = some(1, scope);
                int high = rarely(20) ? any() : from(Math.max(1, Math.min(low, 20)), 20);
                due("only(" + rule + ", " + y + ", " + low + ", " + high + ")",
                        fronts.only(rule, y, low, high), model.only(rule, y, low, high));
            }
            default -> {
                int parts = rarely(30) ? 0 : rarely(12) ? 7 : from(1, 3);
                for (int i = 0; i < parts; i++) {
                    boolean share = below(3) != 0;
                    int of = name();
                    int v = rarely(60) ? any() : from(1, share ? 3 : sizes);
                    due("part(" + of + ", " + v + ", " + share + ")", fronts.part(of, v, share), model.part(of, v, share));
                }
                due("split(" + name + ", " + y + ", " + cost + ")", fronts.split(name, y, cost), model.split(name, y, cost));
            }
        }
    }

    private void ask() {
        int wide = some(1, scope), high = some(1, scope), name = name();
        switch (below(20)) {
            case 0 -> {
                int rule = some(0, Math.max(0, model.count(0)));
                int what = some(0, 5);
                due("rule(" + rule + ", " + what + ")", fronts.rule(rule, what), model.rule(rule, what));
            }
            case 1 -> {
                int rule = some(0, Math.max(0, model.count(0)));
                due("holds(" + rule + ", " + wide + ", " + high + ")", fronts.holds(rule, wide, high), model.holds(rule, wide, high));
            }
            case 2, 3 -> {
                int rule = some(0, Math.max(0, model.count(0)));
                int i = some(0, 4);
                boolean length = rarely(2);
                due("piece(" + rule + ", " + wide + ", " + high + ", " + i + ", " + length + ")",
                        fronts.piece(rule, wide, high, i, length), model.piece(rule, wide, high, i, length));
            }
            case 4, 5, 6 -> drawAndRead(wide, high);
            case 7 -> due("ways(" + name + ", " + wide + ", " + high + ")", fronts.ways(name, wide, high), model.ways(name, wide, high));
            case 8 -> due("least(" + name + ", " + wide + ", " + high + ")", fronts.least(name, wide, high), model.least(name, wide, high));
            case 9 -> {
                int w = some(1, boardSide), h = some(1, boardSide);
                due("board(" + w + ", " + h + ")", fronts.board(w, h), model.board(w, h));
            }
            case 10, 11 -> {
                int place = rarely(30) ? any() : below(boardSide) + 9 * below(boardSide);
                int letter = rarely(30) ? any() : below(letters);
                due("put(" + place + ", " + letter + ")", fronts.put(place, letter), model.put(place, letter));
            }
            case 12 -> due("parses()", fronts.parses(), model.parses());
            case 13 -> due("best()", fronts.best(), model.best());
            case 14 -> {
                int i = some(0, 12);
                due("bestStep(" + i + ")", fronts.bestStep(i), model.bestStep(i));
            }
            case 15 -> {
                int place = rarely(30) ? any() : below(boardSide) + 9 * below(boardSide);
                int w = some(1, boardSide), h = some(1, boardSide);
                due("stands(" + name + ", " + place + ", " + w + ", " + h + ")",
                        fronts.stands(name, place, w, h), model.stands(name, place, w, h));
            }
            case 16 -> {
                int what = some(0, 6);
                due("count(" + what + ")", fronts.count(what), model.count(what));
            }
            case 17, 18 -> takeAndParse();
            default -> {
                int x = some(0, scope), y = some(0, scope);
                due("at(" + x + ", " + y + ")", fronts.at(x, y), model.at(x, y));
            }
        }
    }

    private void drawAndRead(int wide, int high) {
        int seed = rarely(2) ? from(-50, 50) : below(Integer.MAX_VALUE) * (rarely(2) ? 2 : -1);
        int i = some(0, 20);
        due("draw(" + seed + ", " + wide + ", " + high + ")", fronts.draw(seed, wide, high), model.draw(seed, wide, high));
        due("fault()", fronts.fault(), model.fault());
        due("drawn()", fronts.drawn(), model.drawn());
        due("step(" + i + ")", fronts.step(i), model.step(i));
        due("step(0)", fronts.step(0), model.step(0));
    }

    /** A board that has a parse is seldom met by chance: one that was drawn has. */
    private void takeAndParse() {
        due("draw(" + call + ", ..)", fronts.draw(call, boardSide, boardSide), model.draw(call, boardSide, boardSide));
        due("take()", fronts.take(), model.take());
        due("parses()", fronts.parses(), model.parses());
        due("best()", fronts.best(), model.best());
        int steps = 0;
        for (int i = 0; call < CALLS; i++) {
            int step = model.bestStep(i);
            due("bestStep(" + i + ")", fronts.bestStep(i), step);
            if (step < 0) break;
            steps++;
        }
        if (steps > 0 && steps <= 5 && call < CALLS) {
            List<Integer> written = model.bestWrittenOut(steps);
            for (int i = 0; i < steps; i++) {
                due("bestStep(" + i + "), of all that are written out", fronts.bestStep(i), written.get(i));
            }
        }
    }
}
