import java.util.ArrayList;
import java.util.Arrays;
import java.util.HashSet;
import java.util.List;
import java.util.Random;
import java.util.Set;

/**
 * Runs of calls, drawn from fixed seeds, on the class and on a slow model that says the document's
 * words as plainly as can be: nothing is kept but where boxes lie, and a fill tries every way.
 */
public final class StowPlanAgainstModel {
    private static final int RUNS = 3000;
    // What an object answers behind its 512th call is free.
    private static final int MOST_CALLS = 512;
    private static final int CALLS_BEFORE_ALL = 340;
    private static final int THROWS_IAE = -1001;
    private static final int THROWS_ISE = -1002;
    private static final int THROWS_IOOBE = -1003;
    private static final int THROWS_ELSE = -1004;

    private static final class Model {
        final int bays;
        final int rows;
        final int tiers;
        final List<int[]> boxes = new ArrayList<>();
        final List<int[]> places = new ArrayList<>();
        final Set<String> plugs = new HashSet<>();
        final Set<String> apart = new HashSet<>();
        final int[] loads = {100, 100, 100, 100};

        Model(int bays, int rows, int tiers) {
            this.bays = Math.min(4, Math.max(1, bays));
            this.rows = Math.min(4, Math.max(1, rows));
            this.tiers = Math.min(5, Math.max(1, tiers));
        }

        boolean cell(int bay, int row, int tier) {
            return bay >= 0 && bay < bays && row >= 0 && row < rows && tier >= 0 && tier < tiers;
        }

        boolean known(int box) {
            return box >= 0 && box < boxes.size();
        }

        boolean lies(int box) {
            return places.get(box) != null;
        }

        int size(int box) {
            return boxes.get(box)[0];
        }

        int weight(int box) {
            return boxes.get(box)[1];
        }

        List<int[]> cellsOf(int box) {
            List<int[]> cells = new ArrayList<>();
            int[] p = places.get(box);
            if (p != null) {
                cells.add(p);
                if (size(box) == 40) {
                    cells.add(new int[] {p[0] + 1, p[1], p[2]});
                }
            }
            return cells;
        }

        int at(int bay, int row, int tier) {
            for (int box = 0; box < boxes.size(); box++) {
                for (int[] c : cellsOf(box)) {
                    if (c[0] == bay && c[1] == row && c[2] == tier) {
                        return box;
                    }
                }
            }
            return -1;
        }

        int box(int size, int weight, int port, int kind) {
            boolean can = (size == 20 || size == 40) && weight > 0 && weight < 41
                && port > 0 && port < 7 && kind >= 0 && kind < 3;
            if (!can) {
                return THROWS_IAE;
            }
            if (boxes.size() == 40) {
                return THROWS_ISE;
            }
            boxes.add(new int[] {size, weight, port, kind});
            places.add(null);
            return boxes.size() - 1;
        }

        int put(int box, int bay, int row, int tier) {
            if (!cell(bay, row, tier)) {
                return THROWS_IOOBE;
            }
            boolean is40 = known(box) && size(box) == 40;
            if (is40 && (bay == 1 || bay == 3 || !cell(bay + 1, row, tier))) {
                return THROWS_IOOBE;
            }
            if (!known(box) || lies(box) || at(bay, row, tier) >= 0 || is40 && at(bay + 1, row, tier) >= 0) {
                return 0;
            }
            places.set(box, new int[] {bay, row, tier});
            return 1;
        }

        int take(int box) {
            return known(box) && places.set(box, null) != null ? 1 : 0;
        }

        int load(int bay, int most) {
            if (bay < 0 || bay >= bays || most < 1 || most > 200) {
                return 0;
            }
            loads[bay] = most;
            return 1;
        }

        static String key(int... numbers) {
            return Arrays.toString(numbers);
        }

        int plug(int bay, int row, int tier, boolean is) {
            if (!cell(bay, row, tier)) {
                return THROWS_IOOBE;
            }
            return (is ? plugs.add(key(bay, row, tier)) : plugs.remove(key(bay, row, tier))) ? 1 : 0;
        }

        int apart(int box, int other, boolean is) {
            if (!known(box) || !known(other) || box == other) {
                return 0;
            }
            String pair = key(Math.min(box, other), Math.max(box, other));
            return (is ? apart.add(pair) : apart.remove(pair)) ? 1 : 0;
        }

        boolean rule1(int box) {
            for (int[] c : cellsOf(box)) {
                for (int t = c[2] - 1; t >= 0; t--) {
                    if (at(c[0], c[1], t) < 0) {
                        return true;
                    }
                }
            }
            return false;
        }

        boolean rule2(int box) {
            for (int[] c : cellsOf(box)) {
                int upTo = 0;
                for (int t = 0; t <= c[2]; t++) {
                    int b = at(c[0], c[1], t);
                    upTo += b < 0 ? 0 : weight(b);
                }
                if (upTo > loads[c[0]] && upTo - weight(box) <= loads[c[0]]) {
                    return true;
                }
            }
            return false;
        }

        boolean rule3(int box) {
            for (int[] c : cellsOf(box)) {
                int below = at(c[0], c[1], c[2] - 1);
                if (below >= 0 && weight(below) < weight(box)) {
                    return true;
                }
            }
            return false;
        }

        boolean rule4(int box) {
            int[] p = places.get(box);
            return boxes.get(box)[3] == 1 && !plugs.contains(key(p[0], p[1], p[2]));
        }

        boolean rule5(int box) {
            if (boxes.get(box)[3] != 2) {
                return false;
            }
            for (int[] c : cellsOf(box)) {
                if (c[2] == tiers - 1 || at(c[0], c[1], c[2] + 1) >= 0) {
                    return true;
                }
            }
            return false;
        }

        boolean rule6(int box) {
            int[][] steps = {{1, 0, 0}, {-1, 0, 0}, {0, 1, 0}, {0, -1, 0}, {0, 0, 1}, {0, 0, -1}};
            for (int[] c : cellsOf(box)) {
                for (int[] s : steps) {
                    int other = at(c[0] + s[0], c[1] + s[1], c[2] + s[2]);
                    if (other > box && apart.contains(key(box, other))) {
                        return true;
                    }
                }
            }
            return false;
        }

        boolean rule7(int box) {
            int[] p = places.get(box);
            if (size(box) != 40 || p[2] == 0) {
                return false;
            }
            int even = at(p[0], p[1], p[2] - 1);
            int odd = at(p[0] + 1, p[1], p[2] - 1);
            boolean on20InEven = even >= 0 && size(even) == 20;
            boolean on20InOdd = odd >= 0 && size(odd) == 20;
            return on20InEven != on20InOdd;
        }

        List<int[]> faults() {
            List<int[]> all = new ArrayList<>();
            for (int box = 0; box < boxes.size(); box++) {
                if (!lies(box)) {
                    continue;
                }
                boolean[] broken = {rule1(box), rule2(box), rule3(box), rule4(box), rule5(box), rule6(box), rule7(box)};
                int[] p = places.get(box);
                for (int rule = 1; rule <= 7; rule++) {
                    if (broken[rule - 1]) {
                        all.add(new int[] {rule, box, p[0], p[1], p[2]});
                    }
                }
            }
            all.sort((a, b) -> Arrays.compare(
                new int[] {a[2], a[3], a[4], a[0]}, new int[] {b[2], b[3], b[4], b[0]}));
            return all;
        }

        int fault(int i, int what) {
            List<int[]> all = faults();
            return i < 0 || i >= all.size() || what < 0 || what > 4 ? THROWS_IOOBE : all.get(i)[what];
        }

        /** Pairs (lower, upper), of all bays or of one. */
        Set<String> overstows(int onlyBay, int port) {
            Set<String> pairs = new HashSet<>();
            for (int bay = 0; bay < bays; bay++) {
                for (int cell = 0; cell < rows * tiers * tiers; cell++) {
                    int row = cell / tiers / tiers;
                    int low = cell / tiers % tiers;
                    int high = cell % tiers;
                    if (low >= high || onlyBay >= 0 && onlyBay != bay) {
                        continue;
                    }
                    int lower = at(bay, row, low);
                    int upper = at(bay, row, high);
                    if (lower >= 0 && upper >= 0 && boxes.get(upper)[2] > boxes.get(lower)[2]
                            && (port == 0 || boxes.get(lower)[2] == port)) {
                        pairs.add(key(lower, upper));
                    }
                }
            }
            return pairs;
        }

        int over(int port) {
            return port < 0 || port > 6 ? THROWS_IAE : overstows(-1, port).size();
        }

        int stackTop(int bay, int row) {
            int top = 0;
            for (int t = 0; t < tiers; t++) {
                if (at(bay, row, t) >= 0) {
                    top = t + 1;
                }
            }
            return top;
        }

        /** Collects every way there is as (box, row, box, row, ..), with its overstows in front. */
        void ways(int bay, List<Integer> free, List<Integer> way, List<List<Integer>> found) {
            List<Integer> told = new ArrayList<>(way);
            told.add(0, overstows(bay, 0).size());
            found.add(told);
            for (int box : free) {
                for (int row = 0; row < rows && !lies(box); row++) {
                    int tier = stackTop(bay, row);
                    if (tier >= tiers) {
                        continue;
                    }
                    places.set(box, new int[] {bay, row, tier});
                    if (!rule2(box) && !rule3(box) && !rule4(box)) {
                        way.add(box);
                        way.add(row);
                        ways(bay, free, way, found);
                        way.remove(way.size() - 1);
                        way.remove(way.size() - 1);
                    }
                    places.set(box, null);
                }
            }
        }

        static int compareWays(List<Integer> a, List<Integer> b) {
            if (a.size() != b.size()) {
                return b.size() - a.size();
            }
            for (int i = 0; i < a.size(); i++) {
                if (!a.get(i).equals(b.get(i))) {
                    return a.get(i) - b.get(i);
                }
            }
            return 0;
        }

        int fill(int bay) {
            if (bay < 0 || bay >= bays) {
                return THROWS_IOOBE;
            }
            List<Integer> free = new ArrayList<>();
            for (int box = 0; box < boxes.size() && free.size() < 4; box++) {
                if (size(box) == 20 && !lies(box)) {
                    free.add(box);
                }
            }
            List<List<Integer>> found = new ArrayList<>();
            ways(bay, free, new ArrayList<>(), found);
            // The order in which ways were found must not matter.
            List<Integer> best = found.get(found.size() - 1);
            for (List<Integer> way : found) {
                best = compareWays(way, best) < 0 ? way : best;
            }
            for (int i = 1; i < best.size(); i += 2) {
                int row = best.get(i + 1);
                places.set(best.get(i), new int[] {bay, row, stackTop(bay, row)});
            }
            return best.size() / 2;
        }

        int lookedAt(int bay, int row, int tier) {
            return cell(bay, row, tier) ? at(bay, row, tier) : THROWS_IOOBE;
        }

        int look(int box, int what) {
            if (!known(box) || what < 0 || what > 6) {
                return THROWS_IOOBE;
            }
            return what < 4 ? boxes.get(box)[what] : lies(box) ? places.get(box)[what - 4] : -1;
        }

        int count(int what) {
            int lying = 0;
            int weight = 0;
            int[] inBay = new int[5];
            for (int box = 0; box < boxes.size(); box++) {
                lying += lies(box) ? 1 : 0;
                weight += lies(box) ? weight(box) : 0;
                for (int[] c : cellsOf(box)) {
                    inBay[c[0]] += weight(box);
                }
            }
            int[] plain = {boxes.size(), lying, bays, rows, tiers, weight};
            if (what >= 0 && what < plain.length) {
                return plain[what];
            }
            return what >= 10 && what < 10 + bays ? inBay[what - 10] : -1;
        }
    }

    private interface Call {
        int answer();
    }

    private static int outcome(Call call) {
        try {
            return call.answer();
        } catch (RuntimeException e) {
            if (e.getClass() == IllegalArgumentException.class) {
                return THROWS_IAE;
            }
            if (e.getClass() == IllegalStateException.class) {
                return THROWS_ISE;
            }
            return e.getClass() == IndexOutOfBoundsException.class ? THROWS_IOOBE : THROWS_ELSE;
        }
    }

    private static int bit(boolean b) {
        return b ? 1 : 0;
    }

    private final Random random;
    private final int run;
    private final StringBuilder told = new StringBuilder();
    private final StowPlan plan;
    private final Model model;
    private final int heaviest;
    private boolean agrees = true;
    private int calls = 0;

    private StowPlanAgainstModel(int run) {
        this.run = run;
        random = new Random(run);
        int bays = random.nextInt(6);
        int rows = random.nextInt(6);
        int tiers = random.nextInt(7);
        plan = new StowPlan(bays, rows, tiers);
        model = new Model(bays, rows, tiers);
        // Runs of light boxes alone, so that ties are frequent, beside runs of all weights.
        heaviest = run % 3 == 0 ? 3 : run % 3 == 1 ? 12 : 40;
        told.append("new(").append(bays).append(", ").append(rows).append(", ").append(tiers).append(")");
    }

    /** Mostly 0 .. n - 1, now and then beside it. */
    private int near(int n) {
        int draw = random.nextInt(60);
        if (draw == 0) {
            return Integer.MIN_VALUE + random.nextInt(3);
        }
        if (draw == 1) {
            return Integer.MAX_VALUE - random.nextInt(3);
        }
        return draw < 6 ? random.nextInt(n + 2) - 1 : random.nextInt(n);
    }

    private int someBox() {
        return near(Math.max(1, model.boxes.size()));
    }

    private void same(String call, int got, int want) {
        calls++;
        told.append("; ").append(call).append(" = ").append(got);
        if (got != want && agrees) {
            agrees = false;
            System.out.println("run " + run + ": due is " + want + " for the last of " + told);
        }
    }

    private void callBox() {
        int size = random.nextInt(30) == 0 ? 30 : random.nextInt(3) == 0 ? 40 : 20;
        int weight = near(heaviest) + 1;
        int port = near(6) + 1;
        int kind = random.nextInt(3) == 0 ? near(3) : 0;
        same("box(" + size + ", " + weight + ", " + port + ", " + kind + ")",
            outcome(() -> plan.box(size, weight, port, kind)), model.box(size, weight, port, kind));
    }

    private void callPut() {
        int box = someBox();
        int bay = near(model.bays);
        int row = near(model.rows);
        boolean onStack = random.nextInt(3) != 0 && model.cell(bay, row, 0);
        int tier = onStack ? model.stackTop(bay, row) : near(model.tiers);
        same("put(" + box + ", " + bay + ", " + row + ", " + tier + ")",
            outcome(() -> bit(plan.put(box, bay, row, tier))), model.put(box, bay, row, tier));
    }

    private void callPlug() {
        int bay = near(model.bays);
        int row = near(model.rows);
        int tier = near(model.tiers);
        boolean is = random.nextInt(4) != 0;
        same("plug(" + bay + ", " + row + ", " + tier + ", " + is + ")",
            outcome(() -> bit(plan.plug(bay, row, tier, is))), model.plug(bay, row, tier, is));
    }

    private void callApart() {
        int box = someBox();
        int other = someBox();
        boolean is = random.nextInt(4) != 0;
        same("apart(" + box + ", " + other + ", " + is + ")",
            outcome(() -> bit(plan.apart(box, other, is))), model.apart(box, other, is));
    }

    private void callLoad() {
        int bay = near(model.bays);
        int most = near(random.nextBoolean() ? 200 : 4 * heaviest) + 1;
        same("load(" + bay + ", " + most + ")", outcome(() -> bit(plan.load(bay, most))), model.load(bay, most));
    }

    private void callFill() {
        int bay = near(model.bays);
        same("fill(" + bay + ")", outcome(() -> plan.fill(bay)), model.fill(bay));
    }

    private void callTake() {
        int box = someBox();
        same("take(" + box + ")", outcome(() -> bit(plan.take(box))), model.take(box));
    }

    private void changeSomething(int draw) {
        if (draw < 22) {
            callBox();
        } else if (draw < 55) {
            callPut();
        } else if (draw < 67) {
            callTake();
        } else if (draw < 73) {
            callLoad();
        } else if (draw < 82) {
            callPlug();
        } else if (draw < 94) {
            callApart();
        } else {
            callFill();
        }
    }

    private void askSomething(int draw) {
        if (draw == 0) {
            askOver(near(7));
        } else if (draw == 1) {
            askCount(near(16));
        } else if (draw == 2) {
            askLook(someBox(), near(7));
        } else if (draw == 3) {
            askAt(near(model.bays), near(model.rows), near(model.tiers));
        } else if (draw == 4) {
            askFault(near(8), near(5));
        } else {
            same("check()", outcome(() -> plan.check()), model.faults().size());
        }
    }

    private void askOver(int port) {
        same("over(" + port + ")", outcome(() -> plan.over(port)), model.over(port));
    }

    private void askCount(int what) {
        same("count(" + what + ")", outcome(() -> plan.count(what)), model.count(what));
    }

    private void askLook(int box, int what) {
        same("look(" + box + ", " + what + ")", outcome(() -> plan.look(box, what)), model.look(box, what));
    }

    private void askAt(int bay, int row, int tier) {
        same("at(" + bay + ", " + row + ", " + tier + ")",
            outcome(() -> plan.at(bay, row, tier)), model.lookedAt(bay, row, tier));
    }

    private void askFault(int i, int what) {
        same("fault(" + i + ", " + what + ")", outcome(() -> plan.fault(i, what)), model.fault(i, what));
    }

    /** Asks for all that the calls left to a run allow. */
    private void askAll() {
        int faults = model.faults().size();
        for (int i = 0; i <= faults && calls < MOST_CALLS; i++) {
            askFault(i, 0);
        }
        for (int what = 4; what < 7; what++) {
            for (int box = 0; box <= model.boxes.size() && calls < MOST_CALLS; box++) {
                askLook(box, what);
            }
        }
        for (int port = 0; port < 7 && calls < MOST_CALLS; port++) {
            askOver(port);
        }
        for (int i = 0; i < faults * 4 && calls < MOST_CALLS; i++) {
            askFault(i / 4, i % 4 + 1);
        }
    }

    private boolean agree() {
        while (agrees && calls < CALLS_BEFORE_ALL) {
            changeSomething(random.nextInt(100));
            int changed = told.length();
            askSomething(random.nextInt(6));
            // Answers to questions change nothing: they are left out of what is told of a run.
            if (agrees) {
                told.setLength(changed);
            }
        }
        askAll();
        return agrees;
    }

    public static void main(String[] args) {
        int wrong = 0;
        for (int run = 0; run < RUNS && wrong < 5; run++) {
            if (!new StowPlanAgainstModel(run).agree()) {
                wrong++;
            }
        }
        System.out.println(wrong == 0 ? RUNS + " runs agree with the model" : wrong + " runs do not agree");
        if (wrong != 0) {
            System.exit(1);
        }
    }
}
