import java.util.function.IntSupplier;

/** What tests share that take the document sentence by sentence: each sentence has its own test. */
abstract class Sentences {
    static final int NONE = -1;
    static final int IAE = 1001;
    static final int ISE = 1002;
    static final int IOOBE = 1003;
    static final int LEAST = Integer.MIN_VALUE;
    static final int MOST = Integer.MAX_VALUE;

    static final int PLAIN = 0;
    static final int COLD = 1;
    static final int HIGH = 2;

    /** Behind its 512th call an object's answers are free, so no test may lean on them. */
    private static final int MOST_CALLS = 512;

    private static String section = "";
    private static String sentence = "";
    private static int sentences = 0;
    private static int asked = 0;
    private static int wrong = 0;

    static void section(String name) {
        section = name;
    }

    static void sentence(String words, Runnable test) {
        sentence = words;
        sentences++;
        int before = asked;
        test.run();
        if (asked == before) {
            tell("nothing was asked");
        }
    }

    static void due(String what, int got, int want) {
        asked++;
        if (got != want) {
            tell(what + " answered " + name(got) + ", due is " + name(want));
        }
    }

    static void due(String what, String got, String want) {
        asked++;
        if (!got.equals(want)) {
            tell(what + " answered [" + got + "], due is [" + want + "]");
        }
    }

    static void end() {
        System.out.println(sentences + " sentences, " + asked + " answers asked, " + wrong + " wrong");
        if (wrong != 0) {
            System.exit(1);
        }
    }

    private static void tell(String text) {
        wrong++;
        System.out.println(section + ", \"" + sentence + "\": " + text);
    }

    private static String name(int answer) {
        switch (answer) {
            case IAE: return "IllegalArgumentException";
            case ISE: return "IllegalStateException";
            case IOOBE: return "IndexOutOfBoundsException";
            default: return Integer.toString(answer);
        }
    }

    /** Numbers that are none of 0 .. count - 1, also some that would be if they were cut or wrapped. */
    static int[] outside(int count) {
        return new int[] {-1, count, -2, count + 1, -count, 64, 128, 256, 65536, -256, -65536,
            LEAST, LEAST + 1, LEAST + count, MOST, MOST - 1};
    }

    /** A StowPlan whose calls all answer a number: true is 1, false 0, an exception its code. */
    static final class Ship {
        private final StowPlan plan;
        private int calls = 0;

        Ship(int bays, int rows, int tiers) {
            plan = new StowPlan(bays, rows, tiers);
        }

        private int outcome(IntSupplier call) {
            calls++;
            if (calls > MOST_CALLS) {
                throw new AssertionError("the test makes more calls than an object is used for");
            }
            try {
                return call.getAsInt();
            } catch (RuntimeException e) {
                return code(e);
            }
        }

        /** The very class counts: a subclass would be what the machine has thrown. */
        private static int code(RuntimeException e) {
            if (e.getClass() == IllegalArgumentException.class) {
                return IAE;
            }
            if (e.getClass() == IllegalStateException.class) {
                return ISE;
            }
            if (e.getClass() == IndexOutOfBoundsException.class) {
                return IOOBE;
            }
            throw e;
        }

        private static int bit(boolean is) {
            return is ? 1 : 0;
        }

        int calls() {
            return calls;
        }

        int box(int size, int weight, int port, int kind) {
            return outcome(() -> plan.box(size, weight, port, kind));
        }

        int put(int box, int bay, int row, int tier) {
            return outcome(() -> bit(plan.put(box, bay, row, tier)));
        }

        int take(int box) {
            return outcome(() -> bit(plan.take(box)));
        }

        int load(int bay, int most) {
            return outcome(() -> bit(plan.load(bay, most)));
        }

        int plug(int bay, int row, int tier, boolean is) {
            return outcome(() -> bit(plan.plug(bay, row, tier, is)));
        }

        int apart(int box, int other, boolean is) {
            return outcome(() -> bit(plan.apart(box, other, is)));
        }

        int check() {
            return outcome(plan::check);
        }

        int fault(int i, int what) {
            return outcome(() -> plan.fault(i, what));
        }

        int over(int port) {
            return outcome(() -> plan.over(port));
        }

        int fill(int bay) {
            return outcome(() -> plan.fill(bay));
        }

        int at(int bay, int row, int tier) {
            return outcome(() -> plan.at(bay, row, tier));
        }

        int look(int box, int what) {
            return outcome(() -> plan.look(box, what));
        }

        int count(int what) {
            return outcome(() -> plan.count(what));
        }

        /** A plain box that leaves first: its number. */
        int box(int size, int weight) {
            return box(size, weight, 1, PLAIN);
        }

        void boxes(int howMany, int size, int weight) {
            for (int i = 0; i < howMany; i++) {
                box(size, weight);
            }
        }

        int lay(int size, int weight, int bay, int row, int tier) {
            return layKind(size, weight, PLAIN, bay, row, tier);
        }

        int layKind(int size, int weight, int kind, int bay, int row, int tier) {
            return laid(box(size, weight, 1, kind), bay, row, tier);
        }

        int layPort(int size, int port, int bay, int row, int tier) {
            return laid(box(size, 5, port, PLAIN), bay, row, tier);
        }

        private int laid(int box, int bay, int row, int tier) {
            if (put(box, bay, row, tier) != 1) {
                throw new AssertionError("the test lays box " + box + " where it can't lie");
            }
            return box;
        }

        /** All faults in their order, each as "which:box". */
        String faults() {
            StringBuilder told = new StringBuilder();
            int faults = check();
            for (int i = 0; i < faults; i++) {
                told.append(i == 0 ? "" : " ").append(fault(i, 0)).append(':').append(fault(i, 1));
            }
            return told.toString();
        }

        /** The faults of one rule alone, each as "which:box". */
        String faults(int which) {
            StringBuilder told = new StringBuilder();
            for (String fault : faults().split(" ")) {
                if (fault.startsWith(which + ":")) {
                    told.append(told.length() == 0 ? "" : " ").append(fault);
                }
            }
            return told.toString();
        }

        /** Where a box lies, as "bay row tier". */
        String place(int box) {
            return look(box, 4) + " " + look(box, 5) + " " + look(box, 6);
        }

        /** Where the boxes 0 .. howMany - 1 lie, each as "row/tier" or "-". */
        String rowsAndTiers(int howMany) {
            StringBuilder told = new StringBuilder();
            for (int box = 0; box < howMany; box++) {
                int row = look(box, 5);
                told.append(box == 0 ? "" : " ").append(row == NONE ? "-" : row + "/" + look(box, 6));
            }
            return told.toString();
        }

        /** All that the face tells, but for loads, which are told by faults of rule 2 alone. */
        String state() {
            StringBuilder told = new StringBuilder();
            for (int what = 0; what < 15; what++) {
                told.append(count(what)).append(' ');
            }
            for (int port = 0; port <= 6; port++) {
                told.append(over(port)).append(' ');
            }
            tellFaults(told.append("faults "));
            tellBoxes(told.append("boxes "), count(0));
            tellCells(told.append("cells "), count(2), count(3), count(4));
            return told.toString();
        }

        private void tellFaults(StringBuilder told) {
            int faults = check();
            for (int i = 0; i < faults; i++) {
                for (int what = 0; what < 5; what++) {
                    told.append(fault(i, what)).append(' ');
                }
            }
        }

        private void tellBoxes(StringBuilder told, int boxes) {
            for (int box = 0; box < boxes; box++) {
                for (int what = 0; what < 7; what++) {
                    told.append(look(box, what)).append(' ');
                }
                for (int other = 0; other < box; other++) {
                    told.append(areApart(box, other) ? "apart from " + other + " " : "");
                }
            }
        }

        private void tellCells(StringBuilder told, int bays, int rows, int tiers) {
            for (int cell = 0; cell < bays * rows * tiers; cell++) {
                int bay = cell / tiers / rows;
                int row = cell / tiers % rows;
                told.append(at(bay, row, cell % tiers));
                told.append(hasPlug(bay, row, cell % tiers) ? "plug " : " ");
            }
        }

        /** No call tells plugs: one that is not there is set, and taken away again. */
        private boolean hasPlug(int bay, int row, int tier) {
            if (plug(bay, row, tier, true) == 0) {
                return true;
            }
            plug(bay, row, tier, false);
            return false;
        }

        /** No call tells who is kept apart: those who are not are, and then are not any more. */
        private boolean areApart(int box, int other) {
            if (apart(box, other, true) == 0) {
                return true;
            }
            apart(box, other, false);
            return false;
        }
    }
}
