/** The document's terms, sentence by sentence: what is too small or great, empty, full or refused. */
public final class StowPlanTerms extends Sentences {

    // What it is.

    private static void lastCallOfFew() {
        Ship x = new Ship(1, 1, 5);
        x.boxes(4, 20, 5);
        while (x.calls() < 509) {
            due("fill", x.fill(0), 4);
            for (int box = 0; box < 4; box++) {
                due("take", x.take(box), 1);
            }
        }
        due("call 510", x.fill(0), 4);
        due("call 511", x.check(), 0);
        due("call 512", x.count(1), 4);
    }

    private static void lastCallOfMany() {
        Ship x = fullShip();
        for (int turn = 0; turn < 5; turn++) {
            for (int box = 0; box < 40; box++) {
                due("take", x.take(box), 1);
                due("put", x.put(box, box / 20 * 2, box / 5 % 4, box % 5), 1);
            }
        }
        while (x.calls() < 511) {
            due("count", x.count(1), 40);
        }
        due("call 512", x.at(3, 3, 4), 39);
    }

    /** The most boxes of 40 in the greatest ship: not one cell of the 80 is left. */
    private static Ship fullShip() {
        Ship x = new Ship(4, 4, 5);
        for (int box = 0; box < 40; box++) {
            x.lay(40, 5, box / 20 * 2, box / 5 % 4, box % 5);
        }
        return x;
    }

    // Cells and boxes.

    private static void cells() {
        for (int ship = 0; ship < 80; ship++) {
            int bays = ship / 20 + 1;
            int rows = ship / 5 % 4 + 1;
            int tiers = ship % 5 + 1;
            Ship x = new Ship(bays, rows, tiers);
            for (int cell = 0; cell < 6 * 6 * 7; cell++) {
                int bay = cell / 42 - 1;
                int row = cell / 7 % 6 - 1;
                int tier = cell % 7 - 1;
                boolean is = bay >= 0 && bay < bays && row >= 0 && row < rows && tier >= 0 && tier < tiers;
                due("at(" + bay + ", " + row + ", " + tier + ")", x.at(bay, row, tier), is ? NONE : IOOBE);
            }
        }
    }

    private static void lowestTier() {
        Ship x = new Ship(1, 2, 2);
        x.lay(20, 5, 0, 0, 0);
        due("a box in tier 0", x.faults(), "");
        x.lay(20, 5, 0, 1, 1);
        due("one in tier 1", x.faults(), "1:1");
        Ship y = new Ship(1, 1, 5);
        y.box(20, 5);
        y.fill(0);
        due("the first of a stack", y.place(0), "0 0 0");
    }

    private static void fortyBoxes() {
        Ship x = new Ship(1, 1, 1);
        for (int box = 0; box < 40; box++) {
            due("box " + box, x.box(20, 1), box);
        }
        due("one more", x.box(20, 1), ISE);
        due("boxes", x.count(0), 40);
    }

    private static void sizes() {
        Ship x = new Ship(1, 1, 1);
        for (int size = -60; size <= 60; size++) {
            boolean can = size == 20 || size == 40;
            due("size " + size, x.box(size, 5), can ? size / 20 - 1 : IAE);
        }
        for (int size : new int[] {20 + 256, 40 - 256, 20 + 65536, 40 - 65536, LEAST, LEAST + 20, MOST}) {
            due("size " + size, x.box(size, 5), IAE);
        }
    }

    private static void weights() {
        Ship x = new Ship(1, 1, 1);
        for (int weight = 1; weight <= 40; weight++) {
            due("weight " + weight, x.box(20, weight), weight - 1);
        }
        Ship y = new Ship(1, 1, 1);
        for (int weight : new int[] {0, -1, -40, 41, 42, 80, 1 + 256, 40 - 256, 1 + 65536, LEAST, LEAST + 1, MOST}) {
            due("20 of weight " + weight, y.box(20, weight), IAE);
            due("40 of weight " + weight, y.box(40, weight), IAE);
        }
    }

    private static void ports() {
        Ship x = new Ship(1, 1, 1);
        for (int port = -20; port <= 20; port++) {
            boolean can = port >= 1 && port <= 6;
            due("port " + port, x.box(20, 5, port, PLAIN), can ? port - 1 : IAE);
        }
        for (int port : new int[] {1 + 256, 6 - 256, 1 + 65536, LEAST, LEAST + 1, MOST}) {
            due("port " + port, x.box(40, 5, port, PLAIN), IAE);
        }
    }

    private static void kinds() {
        Ship x = new Ship(1, 1, 1);
        for (int kind = -20; kind <= 20; kind++) {
            boolean can = kind >= 0 && kind <= 2;
            due("kind " + kind, x.box(20, 5, 1, kind), can ? kind : IAE);
        }
        for (int kind : new int[] {256, 257, -254, 65536, LEAST, LEAST + 1, MOST}) {
            due("kind " + kind, x.box(40, 5, 1, kind), IAE);
        }
    }

    private static void kindsOfRules() {
        String[] faults = {"", "4:0", "5:0"};
        for (int kind = 0; kind < 3; kind++) {
            Ship x = new Ship(1, 1, 1);
            x.layKind(20, 5, kind, 0, 0, 0);
            due("kind " + kind + ", highest tier, no plug", x.faults(), faults[kind]);
        }
    }

    private static void oneCell() {
        for (int bay = 0; bay < 4; bay++) {
            Ship x = new Ship(4, 2, 2);
            x.lay(20, 5, bay, 1, 1);
            for (int cell = 0; cell < 16; cell++) {
                boolean is = cell == bay * 4 + 3;
                due("cell " + cell, x.at(cell / 4, cell / 2 % 2, cell % 2), is ? 0 : NONE);
            }
            due("its place", x.place(0), bay + " 1 1");
        }
    }

    private static void twoCells() {
        for (int bay = 0; bay < 4; bay += 2) {
            Ship x = new Ship(4, 2, 2);
            x.lay(40, 5, bay, 0, 1);
            for (int cell = 0; cell < 16; cell++) {
                boolean is = cell == bay * 4 + 1 || cell == bay * 4 + 5;
                due("cell " + cell, x.at(cell / 4, cell / 2 % 2, cell % 2), is ? 0 : NONE);
            }
            due("told by the even bay", x.place(0), bay + " 0 1");
        }
    }

    private static void liesNowhere() {
        Ship x = new Ship(1, 1, 3);
        x.lay(20, 5, 0, 0, 0);
        due("one that lies, into an empty cell", x.put(0, 0, 0, 1), 0);
        due("it stays", x.place(0), "0 0 0");
        due("the empty cell", x.at(0, 0, 1), NONE);
    }

    private static void emptyCells() {
        Ship x = fullShip();
        due("a cell that is there, but not empty", x.put(40, 0, 0, 0), 0);
        due("a full ship's boxes", x.count(1), 40);
        Ship y = new Ship(4, 4, 5);
        for (int cell = 0; cell < 40; cell++) {
            y.lay(20, 1, cell / 20, cell / 5 % 4, cell % 5);
        }
        due("40 boxes of 20 lie", y.count(1), 40);
        due("two bays are full", y.fill(0) + y.fill(1), 0);
    }

    private static void whateverRulesSay() {
        Ship x = new Ship(2, 3, 3);
        x.load(0, 6);
        due("rule 1", x.put(x.box(20, 5), 0, 0, 1), 1);
        due("rule 2", x.put(x.box(20, 7), 0, 1, 0), 1);
        due("rule 3", x.put(x.box(20, 8), 0, 1, 1), 1);
        due("rule 4", x.put(x.box(20, 1, 1, COLD), 1, 1, 0), 1);
        due("rule 5", x.put(x.box(20, 1, 1, HIGH), 1, 0, 2), 1);
        int other = x.box(20, 1);
        x.apart(2, other, true);
        due("rule 6", x.put(other, 1, 1, 1), 1);
        x.lay(20, 5, 1, 2, 0);
        due("rule 7", x.put(x.box(40, 5), 0, 2, 1), 1);
        due("all are broken", x.faults(), "1:0 2:1 3:2 6:2 1:7 7:7 1:4 5:4 4:3");
    }

    private static void takenAgain() {
        Ship x = new Ship(2, 1, 3);
        for (int tier = 0; tier < 3; tier++) {
            x.lay(40, 5, 0, 0, tier);
        }
        due("from between others", x.take(1), 1);
        due("its even cell", x.at(0, 0, 1), NONE);
        due("its odd cell", x.at(1, 0, 1), NONE);
        due("the one above stays", x.place(2), "0 0 2");
        due("from below", x.take(0), 1);
        due("into another one's cells", x.put(1, 0, 0, 0), 1);
        due("and the other one into its", x.put(0, 0, 0, 1), 1);
    }

    // The order of faults.

    private static void byCells() {
        Ship x = new Ship(4, 4, 5);
        // Every second cell, the last one first, so that box numbers run against the cells.
        for (int cell = 78; cell >= 0; cell -= 2) {
            x.layKind(20, 5, COLD, cell / 20, cell / 5 % 4, cell % 5);
        }
        int last = -1;
        for (int i = 0; i < 72; i++) {
            int cell = x.fault(i, 2) * 20 + x.fault(i, 3) * 5 + x.fault(i, 4);
            due("fault " + i + " is not before the last one", cell >= last ? 1 : 0, 1);
            due("its box lies there", x.fault(i, 1), 39 - cell / 2);
            last = cell;
        }
        due("faults", x.check(), 72);
    }

    private static void thenNumbers() {
        Ship x = new Ship(2, 1, 3);
        x.layKind(40, 9, COLD, 0, 0, 2);
        x.lay(20, 8, 1, 0, 1);
        x.load(1, 16);
        x.apart(0, 1, true);
        due("of one cell", x.faults(), "1:0 2:0 3:0 4:0 6:0 7:0 1:1");
        Ship y = new Ship(2, 1, 2);
        y.layKind(40, 9, HIGH, 0, 0, 1);
        y.lay(20, 9, 1, 0, 0);
        due("5 before 7", y.faults(), "1:0 5:0 7:0");
    }

    private static void evenBayAlone() {
        Ship x = new Ship(4, 2, 2);
        x.layKind(40, 5, COLD, 2, 0, 0);
        x.layKind(20, 5, COLD, 3, 1, 0);
        x.layKind(20, 5, COLD, 2, 1, 0);
        x.layKind(20, 5, COLD, 1, 0, 0);
        due("before all others of its two bays", x.faults(), "4:3 4:0 4:2 4:1");
        due("its bay", x.fault(1, 2), 2);
        due("its row", x.fault(1, 3), 0);
        due("its tier", x.fault(1, 4), 0);
    }

    // Rule 1.

    private static void emptyBelow() {
        Ship x = new Ship(1, 1, 5);
        x.lay(20, 5, 0, 0, 4);
        due("all below", x.faults(), "1:0");
        x.lay(20, 5, 0, 0, 3);
        due("not the one right below", x.faults(), "1:1 1:0");
        x.lay(20, 5, 0, 0, 0);
        x.lay(20, 5, 0, 0, 1);
        due("one between", x.faults(), "1:1 1:0");
        x.lay(20, 5, 0, 0, 2);
        due("nothing", x.faults(), "");
        x.take(2);
        due("the lowest", x.faults(), "1:3 1:4 1:1 1:0");
    }

    private static void emptyBelowLong() {
        for (int taken = 0; taken < 16; taken++) {
            Ship x = new Ship(2, 1, 3);
            x.lay(40, 5, 0, 0, 2);
            for (int cell = 0; cell < 4; cell++) {
                if ((taken >> cell & 1) == 1) {
                    x.lay(20, 5, cell / 2, 0, cell % 2);
                }
            }
            boolean is = (" " + x.faults() + " ").contains(" 1:0 ");
            due("cells taken below: " + Integer.toBinaryString(taken), is ? 1 : 0, taken == 15 ? 0 : 1);
        }
    }

    private static void emptyBelowLowest() {
        Ship x = new Ship(4, 4, 5);
        for (int row = 0; row < 4; row++) {
            x.lay(40, 5, 0, row, 0);
            x.lay(20, 5, 2, row, 0);
            x.lay(20, 5, 3, row, 0);
        }
        due("the lowest tier", x.faults(), "");
    }

    // Rule 2.

    private static void moreThanLoad() {
        int[] loads = {59, 60, 61};
        String[] faults = {"2:1", "", ""};
        for (int i = 0; i < loads.length; i++) {
            Ship x = new Ship(1, 1, 5);
            x.lay(20, 40, 0, 0, 0);
            x.lay(20, 20, 0, 0, 1);
            x.load(0, loads[i]);
            due("60 on a load of " + loads[i], x.faults(), faults[i]);
        }
    }

    private static void belowAndItself() {
        Ship x = new Ship(2, 2, 5);
        x.load(0, 10);
        x.lay(20, 6, 0, 0, 0);
        x.lay(20, 4, 0, 0, 1);
        x.lay(20, 1, 0, 0, 2);
        due("those above do not count", x.faults(), "2:2");
        x.lay(20, 10, 0, 1, 0);
        x.lay(20, 10, 1, 0, 0);
        due("nor another row or bay", x.faults(), "2:2");
        x.take(1);
        due("nor an empty cell", x.faults(), "1:2");
    }

    private static void eitherBay() {
        int[][] loads = {{15, 25}, {14, 25}, {15, 24}, {14, 24}, {200, 24}, {14, 200}};
        String[] faults = {"", "2:2", "2:2", "2:2", "2:2", "2:2"};
        for (int i = 0; i < loads.length; i++) {
            Ship x = new Ship(2, 1, 2);
            x.lay(20, 10, 0, 0, 0);
            x.lay(20, 20, 1, 0, 0);
            x.lay(40, 5, 0, 0, 1);
            x.load(0, loads[i][0]);
            x.load(1, loads[i][1]);
            due("15 on " + loads[i][0] + ", 25 on " + loads[i][1], x.faults(), faults[i]);
        }
    }

    private static void eitherBayWithout() {
        Ship x = new Ship(2, 1, 2);
        x.lay(20, 10, 0, 0, 0);
        x.lay(20, 20, 1, 0, 0);
        x.lay(40, 5, 0, 0, 1);
        x.load(0, 9);
        due("one bay is too heavy without it", x.faults(), "2:0");
        x.load(1, 24);
        due("the other one by it", x.faults(), "2:0 2:2");
        x.load(1, 19);
        due("both without it", x.faults(), "2:0 2:1");
    }

    private static void wholeWeightInBoth() {
        Ship x = new Ship(2, 1, 2);
        x.lay(40, 11, 0, 0, 0);
        x.lay(20, 5, 1, 0, 1);
        x.load(0, 11);
        x.load(1, 16);
        due("as much as the loads", x.faults(), "");
        x.load(1, 15);
        due("the odd bay bears 16", x.faults(), "2:1");
    }

    private static void loadsThatCanBe() {
        Ship x = new Ship(1, 1, 5);
        due("0", x.load(0, 0), 0);
        due("1", x.load(0, 1), 1);
        x.lay(20, 1, 0, 0, 0);
        due("1 on 1", x.faults(), "");
        x.lay(20, 1, 0, 0, 1);
        due("2 on 1", x.faults(), "2:1");
        due("200", x.load(0, 200), 1);
        due("201", x.load(0, 201), 0);
        Ship y = new Ship(1, 1, 5);
        y.load(0, 200);
        for (int tier = 0; tier < 5; tier++) {
            y.lay(20, 40, 0, 0, tier);
        }
        due("200 on 200", y.faults(), "");
        y.load(0, 199);
        due("200 on 199", y.faults(), "2:4");
    }

    private static void firstLoad() {
        for (int bay = 0; bay < 4; bay++) {
            Ship x = new Ship(4, 1, 5);
            x.lay(20, 40, bay, 0, 0);
            x.lay(20, 40, bay, 0, 1);
            x.lay(20, 20, bay, 0, 2);
            due("100 in bay " + bay, x.faults(), "");
            x.lay(20, 1, bay, 0, 3);
            due("101 in bay " + bay, x.faults(), "2:3");
        }
    }

    private static void withoutItNot() {
        Ship x = new Ship(1, 1, 5);
        x.load(0, 10);
        for (int tier = 0; tier < 5; tier++) {
            x.lay(20, 5, 0, 0, tier);
        }
        due("the one alone that makes it so", x.faults(), "2:2");
        x.load(0, 4);
        due("the lowest", x.faults(), "2:0");
        x.load(0, 24);
        due("the highest", x.faults(), "2:4");
        x.load(0, 25);
        due("none", x.faults(), "");
    }

    // Rules 3 and 4.

    private static void lighterBelow() {
        for (int below = 1; below <= 40; below++) {
            Ship x = new Ship(1, 1, 2);
            x.lay(20, below, 0, 0, 0);
            x.lay(20, 20, 0, 0, 1);
            due("20 on " + below, x.faults(), below < 20 ? "3:1" : "");
        }
    }

    private static void rightBelow() {
        Ship x = new Ship(2, 2, 3);
        x.lay(20, 1, 0, 0, 0);
        x.lay(20, 5, 0, 0, 2);
        due("beyond an empty cell", x.faults(), "1:1");
        x.lay(20, 5, 0, 0, 1);
        due("the one between", x.faults(), "3:2");
        x.lay(20, 40, 1, 0, 0);
        x.lay(20, 40, 0, 1, 0);
        due("not beside", x.faults(), "3:2");
    }

    private static void lighterBelowLong() {
        int[][] below = {{5, 5}, {4, 5}, {5, 4}, {4, 4}, {4, 40}, {40, 4}};
        for (int i = 0; i < below.length; i++) {
            Ship x = new Ship(2, 1, 2);
            x.lay(20, below[i][0], 0, 0, 0);
            x.lay(20, below[i][1], 1, 0, 0);
            x.lay(40, 5, 0, 0, 1);
            due("5 on " + below[i][0] + " and " + below[i][1], x.faults(), i == 0 ? "" : "3:2");
        }
        Ship y = new Ship(2, 1, 2);
        y.lay(40, 4, 0, 0, 0);
        y.lay(20, 5, 1, 0, 1);
        due("20 on the odd cell of 40", y.faults(), "3:1");
        y.take(1);
        y.lay(40, 5, 0, 0, 1);
        due("40 on 40", y.faults(), "3:2");
    }

    private static void noPlug() {
        for (int plugged = 0; plugged < 8; plugged++) {
            Ship x = new Ship(2, 2, 2);
            x.plug(plugged / 4, plugged / 2 % 2, plugged % 2, true);
            x.lay(20, 5, 1, 0, 0);
            x.layKind(20, 5, COLD, 1, 0, 1);
            due("a plug in cell " + plugged, x.faults(), plugged == 5 ? "" : "4:1");
        }
    }

    private static void noPlugLong() {
        for (int plugs = 0; plugs < 4; plugs++) {
            Ship x = new Ship(4, 1, 1);
            x.plug(2, 0, 0, (plugs & 1) == 1);
            x.plug(3, 0, 0, (plugs & 2) == 2);
            x.layKind(40, 5, COLD, 2, 0, 0);
            due("plugs " + plugs, x.faults(), (plugs & 1) == 1 ? "" : "4:0");
        }
    }

    // Rule 5.

    private static void highestTier() {
        for (int tiers = 1; tiers <= 5; tiers++) {
            for (int tier = 0; tier < tiers; tier++) {
                Ship x = new Ship(2, 1, tiers);
                x.layKind(40, 5, HIGH, 0, 0, tier);
                due("tier " + tier + " of " + tiers, x.faults(5), tier == tiers - 1 ? "5:0" : "");
                Ship y = new Ship(2, 1, tiers);
                y.layKind(20, 5, HIGH, 1, 0, tier);
                due("20 in tier " + tier + " of " + tiers, y.faults(5), tier == tiers - 1 ? "5:0" : "");
            }
        }
    }

    private static void rightAbove() {
        for (int tier = 0; tier < 5; tier++) {
            if (tier != 1) {
                Ship x = new Ship(1, 1, 5);
                x.layKind(20, 5, HIGH, 0, 0, 1);
                x.lay(20, 5, 0, 0, tier);
                due("something in tier " + tier, x.faults(5), tier == 2 ? "5:0" : "");
            }
        }
        Ship beside = new Ship(2, 2, 3);
        beside.layKind(20, 5, HIGH, 0, 0, 0);
        beside.lay(20, 5, 1, 0, 1);
        beside.lay(20, 5, 0, 1, 1);
        due("above another cell", beside.faults(5), "");
    }

    private static void rightAboveLong() {
        for (int bay = 0; bay < 2; bay++) {
            Ship x = new Ship(2, 1, 3);
            x.layKind(40, 5, HIGH, 0, 0, 0);
            x.lay(20, 5, bay, 0, 1);
            due("20 above 40 in bay " + bay, x.faults(), "5:0");
            Ship y = new Ship(2, 1, 3);
            y.layKind(20, 5, HIGH, bay, 0, 0);
            y.lay(40, 5, 0, 0, 1);
            due("40 above 20 in bay " + bay, y.faults(5), "5:0");
        }
    }

    // Rule 6.

    private static boolean cellsTouch(int bay, int row, int tier, int otherBay, int otherRow, int otherTier) {
        int rows = Math.abs(row - otherRow);
        int tiers = Math.abs(tier - otherTier);
        if (bay == otherBay) {
            return rows == 1 && tiers == 0 || rows == 0 && tiers == 1;
        }
        return Math.abs(bay - otherBay) == 1 && rows == 0 && tiers == 0;
    }

    private static boolean boxesTouch(int size, int cell, int otherSize, int otherCell) {
        for (int bay = cell / 20; bay < cell / 20 + size / 20; bay++) {
            for (int other = otherCell / 20; other < otherCell / 20 + otherSize / 20; other++) {
                if (cellsTouch(bay, cell / 5 % 4, cell % 5, other, otherCell / 5 % 4, otherCell % 5)) {
                    return true;
                }
            }
        }
        return false;
    }

    /** Two boxes in all cells where they can lie: the last cell of a row is next to no other row's first. */
    private static void touchEverywhere(int size, int otherSize) {
        for (int pair = 0; pair < 80 * 80; pair++) {
            int cell = pair / 80;
            int other = pair % 80;
            Ship x = new Ship(4, 4, 5);
            x.box(size, 5);
            x.box(otherSize, 5);
            x.apart(1, 0, true);
            if (x.put(0, cell / 20, cell / 5 % 4, cell % 5) != 1
                    || x.put(1, other / 20, other / 5 % 4, other % 5) != 1) {
                continue;
            }
            String want = boxesTouch(size, cell, otherSize, other) ? "6:0" : "";
            due(size + " in cell " + cell + ", " + otherSize + " in " + other, x.faults(6), want);
        }
    }

    private static void touchOfShort() {
        touchEverywhere(20, 20);
    }

    private static void touchOfLong() {
        touchEverywhere(40, 20);
        touchEverywhere(20, 40);
        touchEverywhere(40, 40);
    }

    private static void lessNumber() {
        Ship x = new Ship(1, 3, 1);
        x.lay(20, 5, 0, 2, 0);
        x.lay(20, 5, 0, 0, 0);
        x.lay(20, 5, 0, 1, 0);
        due("kept apart from none", x.faults(), "");
        x.apart(2, 1, true);
        due("1 and 2", x.faults(), "6:1");
        x.apart(2, 0, true);
        due("and 0 and 2", x.faults(), "6:1 6:0");
        x.apart(0, 1, true);
        due("0 and 1 do not touch", x.faults(), "6:1 6:0");
        x.take(2);
        due("2 lies nowhere", x.faults(), "");
    }

    // Rule 7.

    private static void oneShortBelow() {
        for (int below = 0; below < 4; below++) {
            Ship x = new Ship(2, 1, 3);
            x.lay(40, 5, 0, 0, 2);
            if ((below & 1) == 1) {
                x.lay(20, 5, 0, 0, 1);
            }
            if ((below & 2) == 2) {
                x.lay(20, 5, 1, 0, 1);
            }
            due("boxes of 20 below: " + below, x.faults(7), below == 1 || below == 2 ? "7:0" : "");
        }
    }

    private static void nothingElseOfThatSize() {
        Ship x = new Ship(4, 1, 3);
        x.lay(40, 5, 0, 0, 1);
        x.lay(40, 5, 0, 0, 2);
        due("on a 40", x.faults(7), "");
        x.lay(20, 5, 0, 0, 0);
        due("which stands on one of 20", x.faults(7), "7:0");
        x.lay(20, 5, 2, 0, 0);
        x.lay(20, 5, 3, 0, 1);
        due("boxes of 20 in other bays", x.faults(7), "7:0");
        x.take(0);
        due("one of 20 not right below", x.faults(7), "");
    }

    private static void itIsOf40() {
        Ship x = new Ship(2, 1, 2);
        x.lay(20, 5, 0, 0, 0);
        x.lay(20, 5, 0, 0, 1);
        due("20 on 20", x.faults(), "");
    }

    private static void oneShortLowest() {
        Ship x = new Ship(4, 2, 5);
        // Next to it in every way in which an index might run over: no box of 20 is below it.
        x.lay(20, 5, 0, 0, 4);
        x.lay(40, 5, 0, 1, 0);
        x.lay(20, 5, 1, 0, 4);
        x.lay(40, 5, 2, 0, 0);
        x.lay(20, 5, 1, 1, 4);
        due("in the lowest tier", x.faults(7), "");
        due("nor is a lighter one", x.faults(3), "");
    }

    // Overstows.

    private static void portGreater() {
        for (int pair = 0; pair < 36; pair++) {
            int lower = pair / 6 + 1;
            int upper = pair % 6 + 1;
            Ship x = new Ship(1, 1, 2);
            x.layPort(20, upper, 0, 0, 1);
            x.layPort(20, lower, 0, 0, 0);
            due("port " + upper + " on " + lower, x.over(0), upper > lower ? 1 : 0);
        }
    }

    private static void oneBayAndRow() {
        for (int cell = 0; cell < 12; cell++) {
            if (cell != 0) {
                Ship x = new Ship(2, 2, 3);
                x.layPort(20, 1, 0, 0, 0);
                x.layPort(20, 6, cell / 6, cell / 3 % 2, cell % 3);
                due("the other one in cell " + cell, x.over(0), cell < 3 ? 1 : 0);
            }
        }
    }

    private static void pairsOfAStack() {
        Ship x = new Ship(1, 1, 5);
        for (int tier = 0; tier < 5; tier++) {
            x.layPort(20, tier + 1, 0, 0, tier);
        }
        due("each with each", x.over(0), 10);
        x.take(2);
        due("beyond an empty cell", x.over(0), 6);
    }

    private static void pairOnce() {
        Ship x = new Ship(4, 1, 3);
        x.layPort(40, 1, 0, 0, 0);
        x.layPort(40, 2, 0, 0, 1);
        due("40 on 40", x.over(0), 1);
        x.layPort(20, 3, 0, 0, 2);
        x.layPort(20, 3, 1, 0, 2);
        due("a box of 20 in either bay", x.over(0), 5);
        x.layPort(40, 1, 2, 0, 0);
        due("in other bays", x.over(0), 5);
    }

    private static void lowerOnesPort() {
        Ship x = new Ship(1, 1, 3);
        x.layPort(20, 2, 0, 0, 0);
        x.layPort(20, 4, 0, 0, 1);
        x.layPort(20, 6, 0, 0, 2);
        int[] pairs = {3, 0, 2, 0, 1, 0, 0};
        for (int port = 0; port < pairs.length; port++) {
            due("port " + port, x.over(port), pairs[port]);
        }
    }

    // Exceptions and refusals.

    private static void firstException() {
        Ship x = new Ship(1, 1, 1);
        x.boxes(40, 20, 5);
        int[][] numbers = {{30, 5, 1, 0}, {20, 0, 1, 0}, {20, 41, 1, 0}, {20, 5, 0, 0}, {20, 5, 7, 0},
            {20, 5, 1, -1}, {20, 5, 1, 3}};
        for (int[] n : numbers) {
            due("numbers that can't be, and 40 boxes", x.box(n[0], n[1], n[2], n[3]), IAE);
        }
        due("40 boxes alone", x.box(20, 5), ISE);
    }

    /** Loads that are told by faults: in each bay one stack weighs just as much, one a bit more. */
    private static Ship busyShip() {
        Ship x = new Ship(3, 2, 4);
        for (int bay = 0; bay < 3; bay++) {
            x.load(bay, 50 + 10 * bay);
            x.lay(20, 40, bay, 0, 0);
            x.box(20, 10 + 10 * bay, 3, HIGH);
            x.put(bay * 3 + 1, bay, 0, 1);
            x.lay(20, 30, bay, 1, 0);
        }
        x.layKind(40, 21, COLD, 0, 1, 1);
        x.lay(20, 10, 1, 1, 3);
        x.lay(20, 30, 2, 1, 1);
        x.lay(20, 11, 2, 1, 2);
        x.box(20, 1, 2, COLD);
        x.box(40, 2, 5, PLAIN);
        x.plug(0, 0, 1, true);
        x.plug(2, 1, 3, true);
        x.apart(0, 2, true);
        x.apart(12, 14, true);
        return x;
    }

    private interface Refused {
        int answer(Ship x);
    }

    private static String busyState = "";

    private static void changesNothing(String call, Refused refused, int want) {
        Ship x = busyShip();
        due(call, refused.answer(x), want);
        due("what stands behind " + call, x.state(), busyState);
    }

    private static void busyLoads() {
        busyState = busyShip().state();
        for (int bay = 0; bay < 3; bay++) {
            for (int by = -1; by <= 1; by += 2) {
                Ship x = busyShip();
                x.load(bay, 50 + 10 * bay + by);
                boolean told = !x.state().equals(busyState);
                due("another load of bay " + bay + " is told", told ? 1 : 0, 1);
            }
        }
    }

    private static void thrownChangesNothing() {
        changesNothing("box", x -> x.box(21, 5), IAE);
        changesNothing("box", x -> x.box(20, 41), IAE);
        for (int no : outside(3)) {
            changesNothing("put into bay " + no, x -> x.put(13, no, 0, 3), IOOBE);
            changesNothing("plug in bay " + no, x -> x.plug(no, 0, 0, true), IOOBE);
            changesNothing("at in bay " + no, x -> x.at(no, 0, 0), IOOBE);
            changesNothing("fill of bay " + no, x -> x.fill(no), IOOBE);
        }
        changesNothing("put into no row", x -> x.put(13, 0, 2, 3), IOOBE);
        changesNothing("put into no tier", x -> x.put(13, 0, 0, 4), IOOBE);
        changesNothing("40 into an odd bay", x -> x.put(14, 1, 0, 3), IOOBE);
        changesNothing("40 without a next bay", x -> x.put(14, 2, 0, 3), IOOBE);
        changesNothing("plug in no row", x -> x.plug(0, 2, 0, true), IOOBE);
        changesNothing("plug in no tier", x -> x.plug(0, 0, 4, true), IOOBE);
        changesNothing("no plug in no cell", x -> x.plug(0, -1, 4, false), IOOBE);
        changesNothing("fault", x -> x.fault(99, 0), IOOBE);
        changesNothing("fault", x -> x.fault(0, 5), IOOBE);
        changesNothing("over", x -> x.over(7), IAE);
        changesNothing("look", x -> x.look(15, 0), IOOBE);
        changesNothing("look", x -> x.look(0, 7), IOOBE);
    }

    private static void thrownByFullChangesNothing() {
        Ship x = new Ship(1, 1, 1);
        Ship y = new Ship(1, 1, 1);
        x.boxes(40, 20, 5);
        y.boxes(40, 20, 5);
        due("box 41", y.box(40, 6), ISE);
        for (int box = 39; box < 41; box++) {
            for (int what = 0; what < 7; what++) {
                due("box " + box + ", " + what, y.look(box, what), x.look(box, what));
            }
        }
        due("boxes", y.count(0), 40);
    }

    private static void refusedChangesNothing() {
        changesNothing("put of no box", x -> x.put(15, 0, 0, 3), 0);
        changesNothing("put of one that lies", x -> x.put(0, 0, 0, 3), 0);
        changesNothing("put of a 40 that lies", x -> x.put(9, 0, 0, 3), 0);
        changesNothing("put into a taken cell", x -> x.put(13, 0, 0, 0), 0);
        changesNothing("40 whose odd cell is taken", x -> x.put(14, 0, 1, 3), 0);
        changesNothing("40 whose even cell is taken", x -> x.put(14, 0, 1, 0), 0);
        changesNothing("take of no box", x -> x.take(15), 0);
        changesNothing("take of one that lies nowhere", x -> x.take(13), 0);
        changesNothing("take of a 40 that lies nowhere", x -> x.take(14), 0);
        for (int no : outside(3)) {
            changesNothing("load of bay " + no, x -> x.load(no, 7), 0);
        }
        for (int no : new int[] {0, -1, 201, 256, LEAST, MOST}) {
            changesNothing("load " + no, x -> x.load(0, no), 0);
        }
        changesNothing("plug that is", x -> x.plug(0, 0, 1, true), 0);
        changesNothing("plug that is not", x -> x.plug(0, 0, 0, false), 0);
        changesNothing("apart of no box", x -> x.apart(0, 15, true), 0);
        changesNothing("apart of none", x -> x.apart(-1, 1, true), 0);
        changesNothing("apart of one", x -> x.apart(3, 3, true), 0);
        changesNothing("apart that is", x -> x.apart(2, 0, true), 0);
        changesNothing("apart that is not", x -> x.apart(1, 0, false), 0);
        changesNothing("fill that puts none", x -> x.fill(0), 0);
        changesNothing("count of nothing", x -> x.count(13), NONE);
    }

    private static void questionsChangeNothing() {
        changesNothing("at", x -> x.at(1, 1, 1), 9);
        changesNothing("look", x -> x.look(9, 0), 40);
        changesNothing("count", x -> x.count(1), 13);
        changesNothing("over", x -> x.over(6), 0);
        changesNothing("fault", x -> x.fault(0, 2), 0);
        changesNothing("what changes and is undone", x -> x.take(12) + x.put(12, 2, 1, 2), 2);
        changesNothing("one put and taken", x -> x.put(14, 0, 0, 3) + x.take(14), 2);
    }

    public static void main(String[] args) {
        section("What it is");
        sentence("An object is used for at most 512 calls after it has been made", () -> {
            lastCallOfFew();
            lastCallOfMany();
        });

        section("Terms");
        sentence("BAYS 0 .. (1 to 4), ROWS 0 .. (1 to 4), TIERS 0 .. (1 to 5", StowPlanTerms::cells);
        sentence("0 the lowest) make CELLS", StowPlanTerms::lowestTier);
        sentence("BOXES 0, 1, .. (40 at most)", StowPlanTerms::fortyBoxes);
        sentence("have a SIZE (20 or 40)", StowPlanTerms::sizes);
        sentence("a WEIGHT (1 .. 40)", StowPlanTerms::weights);
        sentence("a PORT (1 .. 6", StowPlanTerms::ports);
        sentence("a KIND", StowPlanTerms::kinds);
        sentence("0 plain, 1 COLD, 2 HIGH", StowPlanTerms::kindsOfRules);
        sentence("A box of 20 lies in a cell", StowPlanTerms::oneCell);
        sentence("one of 40 in two: of an even bay and the next one, in one row and tier (told by the even one)",
            StowPlanTerms::twoCells);
        sentence("PUT is a box that lies nowhere", StowPlanTerms::liesNowhere);
        sentence("in its cells, if they are there and empty", StowPlanTerms::emptyCells);
        sentence("whatever rules say", StowPlanTerms::whateverRulesSay);
        sentence("It may be TAKEN out again", StowPlanTerms::takenAgain);

        section("Terms, FAULTS");
        sentence("FAULTS of a plan, by cells (bay, row, tier ascending)", StowPlanTerms::byCells);
        sentence("then numbers", StowPlanTerms::thenNumbers);
        sentence("of a box of 40 in its even bay alone", StowPlanTerms::evenBayAlone);

        sentence("1 something below it is empty", StowPlanTerms::emptyBelow);
        sentence("of a box of 40: of one of both cells", StowPlanTerms::emptyBelowLong);
        sentence("of the lowest tier nothing", StowPlanTerms::emptyBelowLowest);

        sentence("weigh more than the bay's LOAD", StowPlanTerms::moreThanLoad);
        sentence("all boxes of that bay and row up to it (those below and itself", StowPlanTerms::belowAndItself);
        sentence("of a box of 40 in either bay", () -> {
            eitherBay();
            eitherBayWithout();
            wholeWeightInBoth();
        });
        sentence("LOAD (1 .. 200", StowPlanTerms::loadsThatCanBe);
        sentence("100 at first", StowPlanTerms::firstLoad);
        sentence("and without it they do not", StowPlanTerms::withoutItNot);

        sentence("3 a box right below it is lighter", () -> {
            lighterBelow();
            rightBelow();
        });
        sentence("of a box of 40: one of those below", StowPlanTerms::lighterBelowLong);
        sentence("4 it is COLD, and the cell has no PLUG", StowPlanTerms::noPlug);
        sentence("of a box of 40: its even bay's", StowPlanTerms::noPlugLong);
        sentence("5 it is HIGH, and lies in the highest tier", StowPlanTerms::highestTier);
        sentence("or something lies right above it", () -> {
            rightAbove();
            rightAboveLong();
        });

        sentence("in a cell beside, above or below (rows or tiers that differ by one, the other the same),"
            + " or in the same row and tier of a bay beside it", StowPlanTerms::touchOfShort);
        sentence("of boxes of 40 any of their cells", StowPlanTerms::touchOfLong);
        sentence("told for the one with the less number", StowPlanTerms::lessNumber);

        sentence("7 it is of 40", StowPlanTerms::itIsOf40);
        sentence("on a box of 20 in one bay, and on a box of 40 or nothing in the other one",
            StowPlanTerms::oneShortBelow);
        sentence("stands on one box of 20 and nothing else of that size", StowPlanTerms::nothingElseOfThatSize);
        sentence("in the lowest tier never", StowPlanTerms::oneShortLowest);

        section("Terms, OVERSTOWS");
        sentence("the upper one leaves later than a lower one (PORT greater)", StowPlanTerms::portGreater);
        sentence("OVERSTOWS are pairs of boxes of one bay and row", () -> {
            oneBayAndRow();
            pairsOfAStack();
        });
        sentence("Each pair of boxes counts once, also if it is so in two bays", StowPlanTerms::pairOnce);
        sentence("it is one of the lower box's port", StowPlanTerms::lowerOnesPort);

        section("Terms");
        sentence("Of several exceptions the one told first is thrown.", StowPlanTerms::firstException);
        sentence("What throws or is refused changes nothing.", () -> {
            busyLoads();
            thrownChangesNothing();
            thrownByFullChangesNothing();
            refusedChangesNothing();
            questionsChangeNothing();
        });
        end();
    }
}
