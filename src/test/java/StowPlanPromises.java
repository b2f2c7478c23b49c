/** Each promise of the document by itself: ordinary inputs, the edges it names, and wrong inputs. */
public final class StowPlanPromises {
    private static final int IAE = 1001;
    private static final int ISE = 1002;
    private static final int IOOBE = 1003;

    private static final int LEAST = Integer.MIN_VALUE;
    private static final int MOST = Integer.MAX_VALUE;

    private static int asked = 0;
    private static int wrong = 0;

    private interface Call {
        int answer();
    }

    /** What a call answers, or the code of the exception that it throws. */
    private static int outcome(Call call) {
        try {
            return call.answer();
        } catch (RuntimeException e) {
            // The very class: a subclass would be one that the machine has thrown.
            if (e.getClass() == IllegalArgumentException.class) {
                return IAE;
            }
            if (e.getClass() == IllegalStateException.class) {
                return ISE;
            }
            if (e.getClass() == IndexOutOfBoundsException.class) {
                return IOOBE;
            }
            System.out.println("thrown: " + e);
            return LEAST;
        }
    }

    private static void due(String what, int got, int want) {
        asked++;
        if (got != want) {
            wrong++;
            System.out.println(what + " answered " + got + ", due is " + want);
        }
    }

    private static int bit(boolean b) {
        return b ? 1 : 0;
    }

    private static int box(StowPlan x, int size, int weight, int port, int kind) {
        return outcome(() -> x.box(size, weight, port, kind));
    }

    private static int put(StowPlan x, int box, int bay, int row, int tier) {
        return outcome(() -> bit(x.put(box, bay, row, tier)));
    }

    private static int plug(StowPlan x, int bay, int row, int tier, boolean is) {
        return outcome(() -> bit(x.plug(bay, row, tier, is)));
    }

    private static int fault(StowPlan x, int i, int what) {
        return outcome(() -> x.fault(i, what));
    }

    private static int over(StowPlan x, int port) {
        return outcome(() -> x.over(port));
    }

    private static int fill(StowPlan x, int bay) {
        return outcome(() -> x.fill(bay));
    }

    private static int at(StowPlan x, int bay, int row, int tier) {
        return outcome(() -> x.at(bay, row, tier));
    }

    private static int look(StowPlan x, int box, int what) {
        return outcome(() -> x.look(box, what));
    }

    /** A new box, which lies in these cells at once: its number. */
    private static int lay(StowPlan x, int size, int weight, int bay, int row, int tier) {
        return layOf(x, size, weight, 1, 0, bay, row, tier);
    }

    private static int layOf(StowPlan x, int size, int weight, int port, int kind, int... cell) {
        int number = x.box(size, weight, port, kind);
        due("put of box " + number, put(x, number, cell[0], cell[1], cell[2]), 1);
        return number;
    }

    /** All faults in their order, each as "rule:box". */
    private static void faultsDue(String what, StowPlan x, String want) {
        StringBuilder got = new StringBuilder();
        int faults = x.check();
        for (int i = 0; i < faults; i++) {
            got.append(i == 0 ? "" : " ").append(fault(x, i, 0)).append(':').append(fault(x, i, 1));
        }
        due(what + ": behind the last fault", fault(x, faults, 0), IOOBE);
        asked++;
        if (!got.toString().equals(want)) {
            wrong++;
            System.out.println(what + ": faults are [" + got + "], due are [" + want + "]");
        }
    }

    private static void promise1() {
        int[] given = {LEAST, -1, 0, 1, 2, 3, 4, 5, 6, MOST};
        int[] upTo4 = {1, 1, 1, 1, 2, 3, 4, 4, 4, 4};
        int[] upTo5 = {1, 1, 1, 1, 2, 3, 4, 5, 5, 5};
        for (int i = 0; i < given.length; i++) {
            due("bays of " + given[i], new StowPlan(given[i], 2, 3).count(2), upTo4[i]);
            due("rows of " + given[i], new StowPlan(2, given[i], 3).count(3), upTo4[i]);
            due("tiers of " + given[i], new StowPlan(2, 3, given[i]).count(4), upTo5[i]);
        }
        StowPlan x = new StowPlan(4, 4, 5);
        for (int cell = 0; cell < 80; cell++) {
            due("new cell", at(x, cell / 20, cell / 5 % 4, cell % 5), StowPlan.NONE);
        }
        due("new: boxes", x.count(0), 0);
        due("new: faults", x.check(), 0);
        due("new: overstows", over(x, 0), 0);
        due("NONE", StowPlan.NONE, -1);
        StowPlan least = new StowPlan(0, 0, 0);
        due("least: its cell", at(least, 0, 0, 0), StowPlan.NONE);
        due("least: no other bay", at(least, 1, 0, 0), IOOBE);
        due("least: no other row", at(least, 0, 1, 0), IOOBE);
        due("least: no other tier", at(least, 0, 0, 1), IOOBE);
    }

    private static void promise2() {
        StowPlan x = new StowPlan(2, 2, 2);
        int[][] cannotBe = {{19, 5, 3, 0}, {0, 5, 3, 0}, {30, 5, 3, 0}, {41, 5, 3, 0}, {-20, 5, 3, 0},
            {20, 0, 3, 0}, {20, -1, 3, 0}, {20, 41, 3, 0}, {20, 5, 0, 0}, {20, 5, 7, 0}, {40, 5, -1, 0},
            {20, 5, 3, -1}, {20, 5, 3, 3}, {LEAST, LEAST, LEAST, LEAST}, {MOST, MOST, MOST, MOST}};
        for (int[] n : cannotBe) {
            due("box that can't be", box(x, n[0], n[1], n[2], n[3]), IAE);
        }
        due("nothing changed", x.count(0), 0);
        due("first", box(x, 20, 1, 1, 0), 0);
        due("second", box(x, 40, 40, 6, 2), 1);
        for (int i = 2; i < 40; i++) {
            due("box " + i, box(x, 20, 7, 3, 1), i);
        }
        due("box 41", box(x, 20, 7, 3, 1), ISE);
        due("box 41 that can't be", box(x, 20, 41, 3, 1), IAE);
        due("boxes", x.count(0), 40);
        due("first box lies nowhere", look(x, 0, 4), StowPlan.NONE);
        due("last box is there", look(x, 39, 1), 7);
        due("none behind it", look(x, 40, 1), IOOBE);
    }

    private static void promise3() {
        StowPlan x = new StowPlan(4, 2, 2);
        due("put without boxes", put(x, 0, 0, 0, 0), 0);
        int a = x.box(20, 5, 1, 0);
        int b = x.box(40, 5, 1, 0);
        int c = x.box(40, 5, 1, 0);
        int[][] noCells = {{-1, 0, 0}, {4, 0, 0}, {0, -1, 0}, {0, 2, 0}, {0, 0, -1}, {0, 0, 2},
            {LEAST, 0, 0}, {MOST, 0, 0}, {0, MOST, 0}, {0, 0, MOST}, {0, LEAST, 0}, {0, 0, LEAST}};
        for (int[] n : noCells) {
            due("20 into no cell", put(x, a, n[0], n[1], n[2]), IOOBE);
            due("40 into no cell", put(x, b, n[0], n[1], n[2]), IOOBE);
            due("no box into no cell", put(x, 9, n[0], n[1], n[2]), IOOBE);
        }
        due("no box", put(x, 3, 0, 0, 0), 0);
        due("no box below 0", put(x, -1, 0, 0, 0), 0);
        due("no such box at all", put(x, LEAST, 1, 0, 0) + put(x, MOST, 1, 0, 0), 0);
        due("40 into an odd bay", put(x, b, 1, 0, 0), IOOBE);
        due("40 into the last bay", put(x, b, 3, 0, 0), IOOBE);
        due("none lies", x.count(1), 0);
        due("20 into an odd bay", put(x, a, 1, 0, 1), 1);
        due("it lies there", at(x, 1, 0, 1), a);
        due("it lies nowhere else", at(x, 0, 0, 1), StowPlan.NONE);
        due("again", put(x, a, 0, 0, 0), 0);
        due("again, into no cell", put(x, a, 0, 0, 2), IOOBE);
        due("40 whose second cell is taken", put(x, b, 0, 0, 1), 0);
        due("nothing of it lies", at(x, 0, 0, 1), StowPlan.NONE);
        due("40 into bays 2 and 3", put(x, b, 2, 1, 0), 1);
        due("its even cell", at(x, 2, 1, 0), b);
        due("its odd cell", at(x, 3, 1, 0), b);
        due("lying 40 into an odd bay", put(x, b, 1, 0, 0), IOOBE);
        due("lying 40 again", put(x, b, 0, 0, 0), 0);
        due("40 onto a 40", put(x, c, 2, 1, 0), 0);
        int d = x.box(20, 5, 1, 0);
        due("20 into a 40's odd cell", put(x, d, 3, 1, 0), 0);
        due("whatever rules say", put(x, d, 3, 1, 1), 1);
        StowPlan odd = new StowPlan(3, 1, 1);
        int e = odd.box(40, 1, 1, 0);
        due("40 without a next bay", put(odd, e, 2, 0, 0), IOOBE);
        due("40 with a next bay", put(odd, e, 0, 0, 0), 1);
    }

    private static void promise4() {
        StowPlan x = new StowPlan(2, 1, 2);
        due("take without boxes", bit(x.take(0)), 0);
        int a = lay(x, 40, 5, 0, 0, 0);
        int b = lay(x, 20, 5, 1, 0, 1);
        due("below 0", bit(x.take(-1)) + bit(x.take(LEAST)), 0);
        due("too great", bit(x.take(2)) + bit(x.take(40)) + bit(x.take(MOST)), 0);
        due("take 40 from below", bit(x.take(a)), 1);
        due("even cell", at(x, 0, 0, 0), StowPlan.NONE);
        due("odd cell", at(x, 1, 0, 0), StowPlan.NONE);
        due("the other one stays", at(x, 1, 0, 1), b);
        due("lies nowhere", look(x, a, 4) + look(x, a, 5) + look(x, a, 6), -3);
        due("again", bit(x.take(a)), 0);
        due("put again", put(x, a, 0, 0, 0), 1);
        due("take 20", bit(x.take(b)), 1);
        due("boxes stay boxes", x.count(0), 2);
    }

    private static void promise5() {
        StowPlan x = new StowPlan(2, 1, 5);
        due("no bay", bit(x.load(-1, 5)) + bit(x.load(2, 5)) + bit(x.load(MOST, 5)) + bit(x.load(LEAST, 5)), 0);
        due("can't be", bit(x.load(0, 0)) + bit(x.load(0, 201)) + bit(x.load(0, -1)) + bit(x.load(0, MOST)), 0);
        for (int tier = 0; tier < 3; tier++) {
            lay(x, 20, 40 - tier, 1, 0, tier);
        }
        faultsDue("100 at first, 117 lie", x, "2:2");
        due("refused ones change nothing", bit(x.load(1, 201)) + bit(x.load(1, 0)), 0);
        faultsDue("still 100", x, "2:2");
        due("117", bit(x.load(1, 117)), 1);
        faultsDue("117 is enough", x, "");
        due("116", bit(x.load(1, 116)), 1);
        faultsDue("116 is not", x, "2:2");
        due("the same again", bit(x.load(1, 116)), 1);
        due("the other bay", bit(x.load(0, 200)), 1);
        faultsDue("the other bay's does nothing", x, "2:2");
        due("least", bit(x.load(1, 1)), 1);
        faultsDue("the first one is too heavy", x, "2:0");
        due("most", bit(x.load(1, 200)), 1);
        faultsDue("200", x, "");
        StowPlan first = new StowPlan(1, 1, 5);
        lay(first, 20, 40, 0, 0, 0);
        lay(first, 20, 40, 0, 0, 1);
        lay(first, 20, 20, 0, 0, 2);
        faultsDue("100 at first, 100 lie", first, "");
        int more = lay(first, 20, 1, 0, 0, 3);
        faultsDue("100 at first, 101 lie", first, "2:" + more);
    }

    private static void promise6() {
        StowPlan x = new StowPlan(2, 2, 2);
        int[][] noCells = {{-1, 0, 0}, {2, 0, 0}, {0, -1, 0}, {0, 2, 0}, {0, 0, -1}, {0, 0, 2},
            {MOST, MOST, MOST}, {LEAST, LEAST, LEAST}};
        for (int[] n : noCells) {
            due("plug of no cell", plug(x, n[0], n[1], n[2], true), IOOBE);
            due("no plug of no cell", plug(x, n[0], n[1], n[2], false), IOOBE);
        }
        due("none at first", plug(x, 1, 1, 1, false), 0);
        due("plug", plug(x, 1, 1, 1, true), 1);
        due("plug again", plug(x, 1, 1, 1, true), 0);
        due("another cell has none", plug(x, 1, 1, 0, false), 0);
        int a = layOf(x, 20, 5, 1, 1, 1, 1, 1);
        faultsDue("with plug", x, "1:" + a);
        due("no plug any more", plug(x, 1, 1, 1, false), 1);
        faultsDue("without plug", x, "1:" + a + " 4:" + a);
    }

    private static void promise7() {
        StowPlan x = new StowPlan(1, 4, 1);
        int a = lay(x, 20, 5, 0, 1, 0);
        int b = lay(x, 20, 5, 0, 0, 0);
        due("no box", bit(x.apart(a, 2, true)) + bit(x.apart(2, a, true)) + bit(x.apart(-1, a, true))
            + bit(x.apart(a, -1, true)) + bit(x.apart(MOST, LEAST, true)), 0);
        due("one box", bit(x.apart(a, a, true)) + bit(x.apart(b, b, false)), 0);
        due("not apart at first", bit(x.apart(a, b, false)), 0);
        due("apart", bit(x.apart(b, a, true)), 1);
        due("it is so", bit(x.apart(b, a, true)), 0);
        due("it is so, the other way", bit(x.apart(a, b, true)), 0);
        faultsDue("told for the less number", x, "6:0");
        due("not any more", bit(x.apart(a, b, false)), 1);
        due("it is so now", bit(x.apart(b, a, false)), 0);
        faultsDue("none any more", x, "");
        StowPlan many = new StowPlan(1, 4, 5);
        for (int i = 0; i < 40; i++) {
            many.box(20, 1, 1, 0);
        }
        due("greatest numbers", bit(many.apart(39, 38, true)), 1);
        due("others are not", bit(many.apart(7, 6, false)) + bit(many.apart(38, 7, false)), 0);
        due("greatest and least", bit(many.apart(0, 39, true)), 1);
        due("both stand", bit(many.apart(38, 39, true)) + bit(many.apart(39, 0, true)), 0);
        due("one ends", bit(many.apart(0, 39, false)), 1);
        due("the other stands", bit(many.apart(38, 39, true)), 0);
    }

    private static void promise8Empty() {
        StowPlan x = new StowPlan(2, 1, 4);
        x.load(0, 1);
        x.box(40, 40, 1, 2);
        x.box(20, 40, 1, 1);
        due("boxes that lie nowhere make no faults", x.check(), 0);
        x.load(0, 100);
        int a = lay(x, 20, 9, 0, 0, 0);
        faultsDue("the lowest tier", x, "");
        int b = lay(x, 20, 8, 0, 0, 2);
        faultsDue("empty right below", x, "1:" + b);
        int c = lay(x, 20, 7, 0, 0, 3);
        faultsDue("empty further below", x, "1:" + b + " 1:" + c);
        int d = lay(x, 20, 8, 0, 0, 1);
        faultsDue("nothing empty", x, "");
        x.take(c);
        due("40 instead", bit(x.take(b)) + bit(x.take(d)), 2);
        int e = lay(x, 40, 3, 0, 0, 1);
        faultsDue("40 with an empty odd cell below", x, "1:" + e + " 7:" + e);
        int f = lay(x, 20, 9, 1, 0, 0);
        faultsDue("40 on both", x, "");
        x.take(a);
        faultsDue("40 with an empty even cell below", x, "1:" + e + " 7:" + e);
        x.take(f);
        faultsDue("40 on nothing", x, "1:" + e);
    }

    private static void promise8Heavy() {
        StowPlan x = new StowPlan(2, 2, 5);
        x.load(0, 30);
        x.load(1, 10);
        int a = lay(x, 20, 10, 1, 0, 0);
        faultsDue("as much as the load", x, "");
        int b = lay(x, 20, 20, 0, 0, 0);
        int c = lay(x, 40, 5, 0, 0, 1);
        faultsDue("40 too heavy in its odd bay", x, "2:" + c);
        x.load(1, 15);
        faultsDue("both bear it", x, "");
        x.load(0, 24);
        faultsDue("40 too heavy in its even bay", x, "2:" + c);
        x.load(1, 14);
        faultsDue("in both: told once", x, "2:" + c);
        int d = lay(x, 20, 5, 1, 0, 2);
        faultsDue("too heavy before it", x, "2:" + c);
        x.load(0, 19);
        faultsDue("one bay before it, the other by it", x, "2:" + b + " 2:" + c);
        x.load(1, 9);
        faultsDue("both before it", x, "2:" + b + " 2:" + a);
        x.take(a);
        faultsDue("a gap weighs nothing", x, "2:" + b + " 1:" + c + " 7:" + c + " 1:" + d + " 2:" + d);
        x.load(0, 20);
        lay(x, 20, 20, 0, 1, 0);
        faultsDue("another row is another stack", x, "1:" + c + " 2:" + c + " 7:" + c + " 1:" + d + " 2:" + d);
    }

    private static void promise8Lighter() {
        StowPlan x = new StowPlan(2, 1, 4);
        int a = lay(x, 20, 5, 0, 0, 0);
        int b = lay(x, 20, 6, 0, 0, 1);
        faultsDue("one lighter below", x, "3:" + b);
        x.take(b);
        put(x, b, 0, 0, 2);
        faultsDue("not right below", x, "1:" + b);
        x.take(b);
        int c = lay(x, 20, 5, 0, 0, 1);
        faultsDue("as heavy", x, "");
        x.take(c);
        int d = lay(x, 20, 4, 1, 0, 0);
        int e = lay(x, 40, 5, 0, 0, 1);
        faultsDue("40: lighter in the odd bay", x, "3:" + e);
        x.take(d);
        x.take(a);
        put(x, d, 0, 0, 0);
        put(x, a, 1, 0, 0);
        faultsDue("40: lighter in the even bay", x, "3:" + e);
        x.take(d);
        put(x, c, 0, 0, 0);
        faultsDue("40: lighter in neither", x, "");
        put(x, b, 1, 0, 2);
        faultsDue("20 on a lighter 40's odd cell", x, "3:" + b);
        int f = lay(x, 20, 6, 0, 0, 2);
        int g = lay(x, 40, 7, 0, 0, 3);
        faultsDue("40 on two lighter: told once", x, "3:" + f + " 3:" + g + " 3:" + b);
    }

    private static void promise8Cold() {
        StowPlan x = new StowPlan(4, 1, 1);
        int a = layOf(x, 20, 5, 1, 1, 1, 0, 0);
        plug(x, 0, 0, 0, true);
        faultsDue("the odd cell has none", x, "4:" + a);
        plug(x, 1, 0, 0, true);
        faultsDue("it has one", x, "");
        int b = layOf(x, 40, 5, 1, 1, 2, 0, 0);
        plug(x, 3, 0, 0, true);
        faultsDue("40: the odd bay's is no help", x, "4:" + b);
        plug(x, 2, 0, 0, true);
        plug(x, 3, 0, 0, false);
        faultsDue("40: the even bay's is", x, "");
        lay(x, 20, 5, 0, 0, 0);
        plug(x, 0, 0, 0, false);
        faultsDue("plain needs none", x, "");
    }

    private static void promise8High() {
        StowPlan x = new StowPlan(2, 1, 4);
        int a = layOf(x, 20, 9, 1, 2, 0, 0, 0);
        faultsDue("room above", x, "");
        int b = lay(x, 20, 9, 0, 0, 1);
        faultsDue("something right above", x, "5:" + a);
        x.take(b);
        put(x, b, 0, 0, 2);
        faultsDue("something further above", x, "1:" + b);
        x.take(b);
        x.take(a);
        int c = layOf(x, 40, 9, 1, 2, 0, 0, 0);
        put(x, b, 1, 0, 1);
        faultsDue("40: something above its odd cell", x, "5:" + c);
        x.take(b);
        put(x, b, 0, 0, 1);
        faultsDue("40: something above its even cell", x, "5:" + c);
        x.take(b);
        put(x, a, 0, 0, 3);
        faultsDue("the highest tier", x, "1:" + a + " 5:" + a);
        x.take(a);
        lay(x, 20, 9, 0, 0, 3);
        due("plain may lie there", fault(x, 1, 0), IOOBE);
        StowPlan flat = new StowPlan(1, 1, 1);
        int d = layOf(flat, 20, 1, 1, 2, 0, 0, 0);
        faultsDue("the only tier", flat, "5:" + d);
    }

    private static void touchDue(String what, int[] one, int[] other, boolean touch) {
        for (int turn = 0; turn < 2; turn++) {
            int[] first = turn == 0 ? one : other;
            int[] second = turn == 0 ? other : one;
            StowPlan x = new StowPlan(4, 4, 5);
            lay(x, first[0], 5, first[1], first[2], first[3]);
            lay(x, second[0], 5, second[1], second[2], second[3]);
            int without = x.check();
            x.apart(1, 0, true);
            due(what, x.check() - without, touch ? 1 : 0);
            for (int i = 0; i < x.check(); i++) {
                due(what + ": which box", fault(x, i, 0) == 6 ? fault(x, i, 1) : 0, 0);
            }
        }
    }

    private static void promise8Apart() {
        int[] middle = {20, 1, 1, 2};
        touchDue("beside", middle, new int[] {20, 1, 2, 2}, true);
        touchDue("beside, the less row", middle, new int[] {20, 1, 0, 2}, true);
        touchDue("above", middle, new int[] {20, 1, 1, 3}, true);
        touchDue("below", middle, new int[] {20, 1, 1, 1}, true);
        touchDue("the next bay", middle, new int[] {20, 2, 1, 2}, true);
        touchDue("the bay before", middle, new int[] {20, 0, 1, 2}, true);
        touchDue("two rows", middle, new int[] {20, 1, 3, 2}, false);
        touchDue("two tiers", middle, new int[] {20, 1, 1, 4}, false);
        touchDue("two bays", middle, new int[] {20, 3, 1, 2}, false);
        touchDue("row and tier", middle, new int[] {20, 1, 2, 3}, false);
        touchDue("bay and tier", middle, new int[] {20, 2, 1, 3}, false);
        touchDue("bay and row", middle, new int[] {20, 0, 0, 2}, false);
        touchDue("40: above its odd cell", new int[] {40, 0, 1, 2}, new int[] {20, 1, 1, 3}, true);
        touchDue("40: beside its even cell", new int[] {40, 0, 1, 2}, new int[] {20, 0, 2, 2}, true);
        touchDue("40: the bay behind it", new int[] {40, 0, 1, 2}, new int[] {20, 2, 1, 2}, true);
        touchDue("40: two bays behind it", new int[] {40, 0, 1, 2}, new int[] {20, 3, 1, 2}, false);
        touchDue("40: the bay before it", new int[] {40, 2, 1, 2}, new int[] {20, 1, 1, 2}, true);
        touchDue("40 and 40 in a line", new int[] {40, 0, 1, 2}, new int[] {40, 2, 1, 2}, true);
        touchDue("40 on 40", new int[] {40, 0, 1, 2}, new int[] {40, 0, 1, 3}, true);
        touchDue("40 and 40 aslant", new int[] {40, 0, 1, 2}, new int[] {40, 2, 2, 2}, false);

        StowPlan x = new StowPlan(1, 4, 1);
        int a = lay(x, 20, 5, 0, 1, 0);
        int b = lay(x, 20, 5, 0, 0, 0);
        int c = lay(x, 20, 5, 0, 2, 0);
        x.apart(a, b, true);
        x.apart(c, a, true);
        faultsDue("two boxes touch it: it is one fault", x, "6:" + a);
        x.take(b);
        faultsDue("one lies nowhere", x, "6:" + a);
        x.take(c);
        faultsDue("both lie nowhere", x, "");
        x.apart(b, c, true);
        x.take(a);
        faultsDue("boxes that lie nowhere do not touch", x, "");
    }

    private static void promise8OneShort() {
        StowPlan x = new StowPlan(2, 1, 4);
        int a = lay(x, 20, 9, 1, 0, 0);
        int b = lay(x, 40, 5, 0, 0, 1);
        faultsDue("on one 20 in the odd bay", x, "1:" + b + " 7:" + b);
        x.take(a);
        faultsDue("on nothing", x, "1:" + b);
        put(x, a, 0, 0, 0);
        faultsDue("on one 20 in the even bay", x, "1:" + b + " 7:" + b);
        int c = lay(x, 20, 9, 1, 0, 0);
        faultsDue("on two", x, "");
        int d = lay(x, 40, 5, 0, 0, 2);
        faultsDue("on a 40", x, "");
        x.take(b);
        x.take(c);
        faultsDue("a 20 not right below", x, "1:" + d);
        x.take(a);
        x.take(d);
        put(x, d, 0, 0, 0);
        faultsDue("in the lowest tier", x, "");
        put(x, a, 1, 0, 1);
        faultsDue("a 20 on a 40, which is lighter", x, "3:" + a);
    }

    private static void promise9() {
        StowPlan x = new StowPlan(4, 2, 3);
        due("no faults at all", fault(x, 0, 0), IOOBE);
        int a = layOf(x, 20, 9, 1, 1, 3, 1, 0);
        int b = layOf(x, 40, 9, 1, 1, 2, 1, 2);
        int c = layOf(x, 20, 9, 1, 1, 2, 1, 0);
        int d = layOf(x, 20, 9, 1, 1, 2, 0, 0);
        int e = layOf(x, 20, 9, 1, 2, 0, 1, 2);
        x.apart(d, c, true);
        faultsDue("by cells, then numbers", x,
            "1:" + e + " 5:" + e + " 4:" + d + " 4:" + c + " 6:" + c + " 1:" + b + " 4:" + b + " 4:" + a);
        int[][] parts = {{1, e, 0, 1, 2}, {5, e, 0, 1, 2}, {4, d, 2, 0, 0}, {4, c, 2, 1, 0},
            {6, c, 2, 1, 0}, {1, b, 2, 1, 2}, {4, b, 2, 1, 2}, {4, a, 3, 1, 0}};
        for (int i = 0; i < parts.length; i++) {
            for (int what = 0; what < 5; what++) {
                due("fault " + i + ", what " + what, fault(x, i, what), parts[i][what]);
            }
            due("no such what", fault(x, i, 5), IOOBE);
            due("no such what below 0", fault(x, i, -1), IOOBE);
        }
        due("no such fault", fault(x, 8, 0), IOOBE);
        due("no such fault below 0", fault(x, -1, 0), IOOBE);
        due("far off", fault(x, MOST, 0) + fault(x, LEAST, 0) + fault(x, 0, MOST) + fault(x, 0, LEAST), 4 * IOOBE);
        allFaultsAtOnce();
    }

    private static void allFaultsAtOnce() {
        StowPlan x = new StowPlan(2, 1, 3);
        int a = layOf(x, 40, 9, 1, 1, 0, 0, 2);
        int b = layOf(x, 20, 8, 1, 2, 1, 0, 1);
        x.load(1, 16);
        x.apart(a, b, true);
        faultsDue("all of a cold 40", x, "1:0 2:0 3:0 4:0 6:0 7:0 1:1 5:1");
        StowPlan y = new StowPlan(2, 1, 3);
        layOf(y, 40, 9, 1, 2, 0, 0, 2);
        layOf(y, 20, 8, 1, 2, 0, 0, 1);
        y.load(0, 16);
        y.apart(0, 1, true);
        faultsDue("all of a high 40", y, "1:1 5:1 1:0 2:0 3:0 5:0 6:0 7:0");
    }

    private static void promise10() {
        StowPlan x = new StowPlan(2, 2, 5);
        due("no such port", over(x, -1) + over(x, 7) + over(x, MOST) + over(x, LEAST), 4 * IAE);
        layOf(x, 20, 9, 3, 0, 0, 0, 0);
        layOf(x, 20, 9, 3, 0, 0, 0, 1);
        due("the same port", over(x, 0), 0);
        layOf(x, 20, 9, 2, 0, 0, 0, 2);
        due("the upper one leaves earlier", over(x, 0), 0);
        int d = layOf(x, 20, 9, 6, 0, 0, 0, 4);
        int[] first = {3, 0, 1, 2, 0, 0, 0};
        for (int port = 0; port < first.length; port++) {
            due("over three, beyond a gap, port " + port, over(x, port), first[port]);
        }
        layOf(x, 20, 9, 6, 0, 0, 1, 4);
        layOf(x, 20, 9, 6, 0, 1, 0, 4);
        due("another row, another bay", over(x, 0), 3);
        x.take(d);
        due("taken out", over(x, 0), 0);

        StowPlan y = new StowPlan(2, 1, 5);
        layOf(y, 40, 9, 1, 0, 0, 0, 0);
        layOf(y, 40, 9, 5, 0, 0, 0, 1);
        due("a pair in two bays", over(y, 0), 1);
        layOf(y, 20, 9, 6, 0, 1, 0, 2);
        due("20 on 40 in the odd bay", over(y, 0), 3);
        layOf(y, 20, 9, 6, 0, 0, 0, 2);
        due("and in the even one", over(y, 0), 5);
        due("of port 1", over(y, 1), 3);
        due("of port 5", over(y, 5), 2);
        due("of port 6", over(y, 6), 0);
        StowPlan turned = new StowPlan(1, 1, 2);
        layOf(turned, 20, 9, 5, 0, 0, 0, 1);
        layOf(turned, 20, 9, 4, 0, 0, 0, 0);
        due("the upper one is the first box", over(turned, 4), 1);
        int z = y.box(20, 1, 1, 0);
        due("a box that lies nowhere", over(y, 0), 5);
        y.put(z, 0, 0, 3);
        due("port 1 on top", over(y, 0), 5);
    }

    private static void liesDue(String what, StowPlan x, int box, int bay, int row, int tier) {
        due(what + ": bay of " + box, look(x, box, 4), bay);
        due(what + ": row of " + box, look(x, box, 5), row);
        due(what + ": tier of " + box, look(x, box, 6), tier);
        if (bay != StowPlan.NONE) {
            due(what + ": cell of " + box, at(x, bay, row, tier), box);
        }
    }

    private static void promise11Which() {
        StowPlan x = new StowPlan(2, 2, 5);
        due("no bay", fill(x, -1) + fill(x, 2) + fill(x, MOST) + fill(x, LEAST), 4 * IOOBE);
        due("no boxes", fill(x, 1), 0);
        x.box(40, 1, 1, 0);
        due("no box of 20", fill(x, 0), 0);
        lay(x, 20, 5, 0, 1, 0);
        for (int i = 0; i < 5; i++) {
            x.box(20, 5, 1, 0);
        }
        due("the first four", fill(x, 1), 4);
        for (int i = 0; i < 4; i++) {
            liesDue("the first row of all", x, i + 2, 1, 0, i);
        }
        liesDue("the fifth", x, 6, StowPlan.NONE, StowPlan.NONE, StowPlan.NONE);
        liesDue("the 40", x, 0, StowPlan.NONE, StowPlan.NONE, StowPlan.NONE);
        liesDue("what lay", x, 1, 0, 1, 0);
        due("the fifth then", fill(x, 1), 1);
        liesDue("the fifth then", x, 6, 1, 0, 4);
        due("none is left", fill(x, 1), 0);

        StowPlan y = new StowPlan(1, 1, 5);
        for (int i = 0; i < 4; i++) {
            y.box(20, 5, 1, 1);
        }
        int plain = y.box(20, 5, 1, 0);
        due("four cold ones keep the fifth out", fill(y, 0), 0);
        due("it lies nowhere", look(y, plain, 4), StowPlan.NONE);
    }

    private static void promise11Where() {
        StowPlan x = new StowPlan(2, 2, 4);
        lay(x, 20, 9, 0, 0, 2);
        lay(x, 40, 9, 0, 1, 3);
        int a = x.box(20, 1, 1, 0);
        int b = x.box(20, 1, 1, 0);
        due("above all that lies", fill(x, 0), 1);
        liesDue("above a gap", x, a, 0, 0, 3);
        liesDue("no cell above", x, b, StowPlan.NONE, StowPlan.NONE, StowPlan.NONE);
        due("the odd bay's other row", fill(x, 1), 1);
        liesDue("the odd bay's other row", x, b, 1, 0, 0);
    }

    private static void promise11Faults() {
        StowPlan order = new StowPlan(1, 1, 5);
        int light = order.box(20, 1, 1, 0);
        int heavy = order.box(20, 5, 1, 0);
        due("the heavier one first", fill(order, 0), 2);
        liesDue("the heavier one", order, heavy, 0, 0, 0);
        liesDue("the lighter one", order, light, 0, 0, 1);

        StowPlan load = new StowPlan(1, 2, 5);
        load.load(0, 20);
        for (int i = 0; i < 4; i++) {
            load.box(20, 10, 1, 0);
        }
        due("two in each row", fill(load, 0), 4);
        liesDue("two in each row", load, 1, 0, 0, 1);
        liesDue("two in each row", load, 2, 0, 1, 0);
        int fifth = load.box(20, 1, 1, 0);
        due("both are full", fill(load, 0), 0);
        load.load(0, 19);
        due("too heavy before it: not by it", fill(load, 0), 1);
        liesDue("onto one too heavy before it", load, fifth, 0, 0, 2);

        StowPlan cold = new StowPlan(1, 2, 3);
        plug(cold, 0, 1, 1, true);
        int c = cold.box(20, 3, 1, 1);
        due("no plug on the floor", fill(cold, 0), 0);
        int d = cold.box(20, 3, 1, 0);
        due("one below lifts it to the plug", fill(cold, 0), 2);
        liesDue("the plain one", cold, d, 0, 1, 0);
        liesDue("the cold one", cold, c, 0, 1, 1);

        StowPlan other = new StowPlan(1, 1, 2);
        int e = other.box(20, 3, 1, 2);
        int f = other.box(20, 3, 1, 2);
        other.apart(e, f, true);
        due("faults 5 and 6 do not matter", fill(other, 0), 2);
        faultsDue("and are told", other, "5:" + e + " 6:" + e + " 5:" + f);
    }

    private static void promise11Best() {
        StowPlan few = new StowPlan(1, 2, 2);
        layOf(few, 20, 9, 1, 0, 0, 0, 0);
        int a = few.box(20, 5, 3, 0);
        int b = few.box(20, 5, 2, 0);
        due("both", fill(few, 0), 2);
        liesDue("the fewest overstows", few, a, 0, 1, 0);
        liesDue("the fewest overstows", few, b, 0, 1, 1);
        due("none at all", over(few, 0), 0);

        StowPlan many = new StowPlan(1, 1, 3);
        layOf(many, 20, 9, 1, 0, 0, 0, 0);
        many.box(20, 5, 6, 0);
        many.box(20, 5, 6, 0);
        due("as many as can be, whatever overstows", fill(many, 0), 2);
        due("overstows of both", over(many, 0), 2);

        StowPlan first = new StowPlan(1, 3, 1);
        first.load(0, 8);
        int heavy = first.box(20, 9, 1, 0);
        int c = first.box(20, 8, 1, 0);
        int d = first.box(20, 8, 1, 0);
        due("all but the heavy one", fill(first, 0), 2);
        liesDue("too heavy", first, heavy, StowPlan.NONE, StowPlan.NONE, StowPlan.NONE);
        liesDue("the first row for the first", first, c, 0, 0, 0);
        liesDue("the second row for the second", first, d, 0, 1, 0);

        StowPlan one = new StowPlan(1, 1, 1);
        int e = one.box(20, 5, 6, 0);
        one.box(20, 5, 1, 0);
        due("one cell", fill(one, 0), 1);
        due("the first by number", at(one, 0, 0, 0), e);

        StowPlan under = new StowPlan(2, 2, 3);
        layOf(under, 40, 9, 2, 0, 0, 0, 0);
        int f = under.box(20, 5, 3, 0);
        due("onto the 40 or beside", fill(under, 1), 1);
        liesDue("not onto a 40 that leaves earlier", under, f, 1, 1, 0);
    }

    private static void promise12() {
        StowPlan x = new StowPlan(2, 3, 4);
        int[][] noCells = {{-1, 0, 0}, {2, 0, 0}, {0, -1, 0}, {0, 3, 0}, {0, 0, -1}, {0, 0, 4},
            {MOST, MOST, MOST}, {LEAST, LEAST, LEAST}};
        for (int[] n : noCells) {
            due("no cell", at(x, n[0], n[1], n[2]), IOOBE);
        }
        int a = lay(x, 40, 5, 0, 2, 3);
        int b = lay(x, 20, 5, 1, 0, 0);
        for (int bay = 0; bay < 2; bay++) {
            for (int row = 0; row < 3; row++) {
                for (int tier = 0; tier < 4; tier++) {
                    boolean isA = row == 2 && tier == 3;
                    boolean isB = bay == 1 && row == 0 && tier == 0;
                    due("cell", at(x, bay, row, tier), isA ? a : isB ? b : StowPlan.NONE);
                }
            }
        }
    }

    private static void promise13() {
        StowPlan x = new StowPlan(4, 3, 4);
        due("no boxes", look(x, 0, 0), IOOBE);
        x.box(20, 11, 4, 1);
        x.box(40, 12, 5, 2);
        int[][] want = {{20, 11, 4, 1, -1, -1, -1}, {40, 12, 5, 2, 2, 1, 3}};
        due("put", put(x, 1, 2, 1, 3), 1);
        for (int box = 0; box < 2; box++) {
            for (int what = 0; what < 7; what++) {
                due("look " + box + ", " + what, look(x, box, what), want[box][what]);
            }
            due("no such what", look(x, box, 7) + look(x, box, -1) + look(x, box, MOST) + look(x, box, LEAST), 4 * IOOBE);
        }
        due("no such box", look(x, 2, 0) + look(x, -1, 0) + look(x, MOST, 0) + look(x, LEAST, 0), 4 * IOOBE);
        due("20 in an odd bay", put(x, 0, 3, 2, 0), 1);
        due("its bay", look(x, 0, 4), 3);
        due("its row", look(x, 0, 5), 2);
        due("its tier", look(x, 0, 6), 0);
    }

    private static void promise14() {
        StowPlan x = new StowPlan(3, 2, 5);
        int a = lay(x, 20, 7, 0, 0, 0);
        lay(x, 40, 11, 0, 1, 0);
        lay(x, 20, 13, 1, 0, 0);
        x.box(20, 17, 1, 0);
        int[] want = {4, 3, 3, 2, 5, 31, -1, -1, -1, -1, 18, 24, 0, -1, -1};
        for (int what = 0; what < want.length; what++) {
            due("count " + what, x.count(what), want[what]);
        }
        due("count below 0", x.count(-1), -1);
        due("count far off", x.count(LEAST) + x.count(MOST) + x.count(LEAST + 9) + x.count(LEAST + 10), -4);
        x.take(a);
        due("count after take", x.count(1), 2);
        due("weight after take", x.count(5), 24);
        due("weight of the bay after take", x.count(10), 11);
        due("boxes after take", x.count(0), 4);
    }

    public static void main(String[] args) {
        promise1();
        promise2();
        promise3();
        promise4();
        promise5();
        promise6();
        promise7();
        promise8Empty();
        promise8Heavy();
        promise8Lighter();
        promise8Cold();
        promise8High();
        promise8Apart();
        promise8OneShort();
        promise9();
        promise10();
        promise11Which();
        promise11Where();
        promise11Faults();
        promise11Best();
        promise12();
        promise13();
        promise14();
        System.out.println(asked + " answers asked, " + wrong + " wrong");
        if (wrong != 0) {
            System.exit(1);
        }
    }
}
