/** The promises' sentences that name a boundary case, each by itself (fill's are in StowPlanFill). */
public final class StowPlanEdges extends Sentences {
    private static final int[] NO_ROW_OR_TIER = {-1, 5, 6, 64, 256, 65536, -256, LEAST, LEAST + 1, MOST};

    // Promise 1.

    private static void heldUp() {
        for (int given : new int[] {0, -1, -4, -255, LEAST, LEAST + 1}) {
            Ship x = new Ship(given, given, given);
            due("bays of " + given, x.count(2), 1);
            due("rows of " + given, x.count(3), 1);
            due("tiers of " + given, x.count(4), 1);
            due("its cell", x.at(0, 0, 0), NONE);
            due("no cell behind it", x.at(0, 0, 1), IOOBE);
        }
    }

    private static void heldDown() {
        for (int given : new int[] {6, 7, 257, 65537, MOST - 1, MOST}) {
            Ship x = new Ship(given, given, given);
            due("bays of " + given, x.count(2), 4);
            due("rows of " + given, x.count(3), 4);
            due("tiers of " + given, x.count(4), 5);
            due("its last cell", x.at(3, 3, 4), NONE);
            due("no tier behind it", x.at(3, 3, 5), IOOBE);
        }
        Ship y = new Ship(5, 5, 5);
        due("5 bays", y.count(2), 4);
        due("5 rows", y.count(3), 4);
        due("5 tiers", y.count(4), 5);
    }

    private static void heldEachByItself() {
        Ship x = new Ship(0, 3, 9);
        due("too few bays", x.count(2), 1);
        due("three rows", x.count(3), 3);
        due("too many tiers", x.count(4), 5);
        for (int ship = 0; ship < 80; ship++) {
            Ship y = new Ship(ship / 20 + 1, ship / 5 % 4 + 1, ship % 5 + 1);
            due("bays", y.count(2), ship / 20 + 1);
            due("rows", y.count(3), ship / 5 % 4 + 1);
            due("tiers", y.count(4), ship % 5 + 1);
        }
    }

    private static void newIsEmpty() {
        Ship x = new Ship(4, 4, 5);
        due("boxes", x.count(0), 0);
        due("those that lie", x.count(1), 0);
        due("faults", x.check(), 0);
        due("overstows", x.over(0), 0);
        for (int cell = 0; cell < 80; cell++) {
            due("cell " + cell, x.at(cell / 20, cell / 5 % 4, cell % 5), NONE);
            due("plug in cell " + cell, x.plug(cell / 20, cell / 5 % 4, cell % 5, false), 0);
        }
    }

    // Promise 2.

    private static void itsNumber() {
        Ship x = new Ship(1, 1, 1);
        due("the first", x.box(40, 40, 6, HIGH), 0);
        due("refused", x.box(40, 0, 6, HIGH), IAE);
        due("the second", x.box(20, 1, 1, PLAIN), 1);
        x.put(1, 0, 0, 0);
        x.take(1);
        due("the third", x.box(20, 1, 1, PLAIN), 2);
    }

    private static void numbersThatCannotBe() {
        int[][] numbers = {{19, 1, 1, 0}, {21, 1, 1, 0}, {39, 1, 1, 0}, {41, 1, 1, 0}, {30, 1, 1, 0}, {0, 1, 1, 0},
            {20, 0, 1, 0}, {40, 41, 1, 0}, {20, 1, 0, 0}, {40, 1, 7, 0}, {20, 1, 1, -1}, {40, 1, 1, 3},
            {20, -1, 1, 0}, {20, 1, -1, 0}, {-20, 1, 1, 0}, {-40, 1, 1, 0}, {LEAST, 1, 1, 0}, {20, LEAST, 1, 0},
            {20, 1, LEAST, 0}, {20, 1, 1, LEAST}, {MOST, 1, 1, 0}, {20, MOST, 1, 0}, {20, 1, MOST, 0}, {20, 1, 1, MOST}};
        Ship x = new Ship(1, 1, 1);
        for (int[] n : numbers) {
            due("box of " + n[0] + " " + n[1] + " " + n[2] + " " + n[3], x.box(n[0], n[1], n[2], n[3]), IAE);
        }
        due("the least that can be", x.box(20, 1, 1, PLAIN), 0);
        due("the most that can be", x.box(40, 40, 6, HIGH), 1);
        due("boxes", x.count(0), 2);
    }

    private static void thereAreForty() {
        Ship x = new Ship(1, 1, 1);
        for (int box = 0; box < 39; box++) {
            x.box(20, 1);
        }
        due("39: one more", x.box(20, 1), 39);
        due("40: none", x.box(20, 1), ISE);
        x.put(39, 0, 0, 0);
        x.take(39);
        due("taken out, but there", x.box(40, 1), ISE);
        due("boxes", x.count(0), 40);
    }

    // Promise 3.

    private static void putNoSuchBox() {
        Ship x = new Ship(2, 2, 2);
        due("no box at all", x.put(0, 0, 0, 0), 0);
        x.boxes(3, 20, 5);
        for (int box : outside(3)) {
            due("box " + box, x.put(box, 1, 1, 1), 0);
        }
        due("the cell", x.at(1, 1, 1), NONE);
        due("the last box", x.put(2, 1, 1, 1), 1);
    }

    private static void putLying() {
        Ship x = new Ship(4, 1, 2);
        x.lay(20, 5, 0, 0, 0);
        x.lay(40, 5, 2, 0, 0);
        due("20 into its own cell", x.put(0, 0, 0, 0), 0);
        due("20 elsewhere", x.put(0, 1, 0, 0), 0);
        due("40 into its own cells", x.put(1, 2, 0, 0), 0);
        due("40 above itself", x.put(1, 2, 0, 1), 0);
        due("40 elsewhere", x.put(1, 0, 0, 1), 0);
    }

    private static void putTaken() {
        for (int taken = 0; taken < 4; taken++) {
            Ship x = new Ship(2, 1, 1);
            x.box(40, 5);
            for (int bay = 0; bay < 2; bay++) {
                if ((taken >> bay & 1) == 1) {
                    x.lay(20, 5, bay, 0, 0);
                }
            }
            due("40, cells taken: " + taken, x.put(0, 0, 0, 0), taken == 0 ? 1 : 0);
        }
        Ship y = new Ship(2, 1, 1);
        y.lay(40, 5, 0, 0, 0);
        y.box(20, 5);
        y.box(40, 5);
        due("20 into 40's even cell", y.put(1, 0, 0, 0), 0);
        due("20 into 40's odd cell", y.put(1, 1, 0, 0), 0);
        due("40 into 40's cells", y.put(2, 0, 0, 0), 0);
    }

    private static void putNoSuchCell() {
        Ship x = new Ship(3, 4, 5);
        x.box(20, 5);
        for (int bay : outside(3)) {
            due("bay " + bay, x.put(0, bay, 0, 0), IOOBE);
        }
        for (int no : NO_ROW_OR_TIER) {
            due("row " + no, x.put(0, 0, no, 0), IOOBE);
            due("tier " + no, x.put(0, 0, 0, no), IOOBE);
        }
        due("row 4", x.put(0, 0, 4, 0), IOOBE);
        due("a row back and a tier too far", x.put(0, 1, 0, -1), IOOBE);
        due("it lies nowhere", x.place(0), "-1 -1 -1");
        due("the last cell", x.put(0, 2, 3, 4), 1);
    }

    private static void putLongNoSuchCell() {
        for (int bays = 1; bays <= 4; bays++) {
            for (int bay = -3; bay <= 6; bay++) {
                Ship x = new Ship(bays, 1, 1);
                x.box(40, 5);
                boolean can = bay == 0 && bays >= 2 || bay == 2 && bays == 4;
                due("40 into bay " + bay + " of " + bays, x.put(0, bay, 0, 0), can ? 1 : IOOBE);
            }
        }
        Ship y = new Ship(4, 4, 5);
        y.box(40, 5);
        for (int bay : outside(4)) {
            due("40 into bay " + bay, y.put(0, bay, 0, 0), IOOBE);
        }
        for (int no : NO_ROW_OR_TIER) {
            due("40 into row " + no, y.put(0, 0, no, 0), IOOBE);
            due("40 into tier " + no, y.put(0, 0, 0, no), IOOBE);
        }
    }

    private static void putThrowsBeforeItRefuses() {
        Ship x = new Ship(3, 1, 1);
        due("no box, no cell", x.put(0, 3, 0, 0), IOOBE);
        x.lay(40, 5, 0, 0, 0);
        due("one that lies, no cell", x.put(0, 0, 1, 0), IOOBE);
        due("a 40 that lies, an odd bay", x.put(0, 1, 0, 0), IOOBE);
        due("a 40 that lies, no next bay", x.put(0, 2, 0, 0), IOOBE);
        x.box(40, 5);
        due("a taken odd bay", x.put(1, 1, 0, 0), IOOBE);
    }

    // Promise 4.

    private static void takeNoSuchBox() {
        Ship x = new Ship(1, 1, 1);
        due("no box at all", x.take(0), 0);
        x.lay(20, 5, 0, 0, 0);
        for (int box : outside(1)) {
            due("box " + box, x.take(box), 0);
        }
        due("the one that lies stays", x.at(0, 0, 0), 0);
        due("it", x.take(0), 1);
    }

    private static void takeLyingNowhere() {
        Ship x = new Ship(2, 1, 1);
        x.boxes(2, 20, 5);
        x.box(40, 5);
        due("never put", x.take(0), 0);
        x.put(0, 1, 0, 0);
        due("put", x.take(0), 1);
        due("taken already", x.take(0), 0);
        x.put(2, 1, 0, 0);
        due("put was refused", x.take(2), 0);
        x.fill(1);
        due("put by fill", x.take(0), 1);
    }

    // Promise 5.

    private static void loadNoSuchBay() {
        for (int bays = 1; bays <= 4; bays++) {
            Ship x = new Ship(bays, 1, 1);
            for (int bay : outside(bays)) {
                due("bay " + bay + " of " + bays, x.load(bay, 50), 0);
            }
            due("the first bay", x.load(0, 50), 1);
            due("the last bay", x.load(bays - 1, 50), 1);
        }
    }

    private static void loadThatCannotBe() {
        Ship x = new Ship(1, 1, 1);
        for (int most : new int[] {0, -1, -100, 201, 202, 256, 257, 65537, LEAST, LEAST + 1, MOST}) {
            due("load " + most, x.load(0, most), 0);
        }
        due("1", x.load(0, 1), 1);
        due("200", x.load(0, 200), 1);
        due("200 again", x.load(0, 200), 1);
    }

    // Promise 6.

    private static void plugIsSo() {
        Ship x = new Ship(2, 2, 2);
        due("none at first", x.plug(1, 0, 1, false), 0);
        due("one", x.plug(1, 0, 1, true), 1);
        due("it has one", x.plug(1, 0, 1, true), 0);
        for (int cell = 0; cell < 8; cell++) {
            if (cell != 5) {
                due("cell " + cell + " has none", x.plug(cell / 4, cell / 2 % 2, cell % 2, false), 0);
            }
        }
        due("none any more", x.plug(1, 0, 1, false), 1);
        due("it has none", x.plug(1, 0, 1, false), 0);
        x.lay(20, 5, 1, 0, 0);
        due("under a box", x.plug(1, 0, 0, true), 1);
        due("it is so under a box", x.plug(1, 0, 0, true), 0);
        x.take(0);
        due("it stays when the box goes", x.plug(1, 0, 0, true), 0);
    }

    private static void plugNoSuchCell() {
        Ship x = new Ship(2, 4, 5);
        for (int bay : outside(2)) {
            due("bay " + bay, x.plug(bay, 0, 0, true), IOOBE);
            due("none in bay " + bay, x.plug(bay, 0, 0, false), IOOBE);
        }
        for (int no : NO_ROW_OR_TIER) {
            due("row " + no, x.plug(0, no, 0, true), IOOBE);
            due("tier " + no, x.plug(0, 0, no, true), IOOBE);
            due("none in tier " + no, x.plug(0, 0, no, false), IOOBE);
        }
        due("row 4", x.plug(0, 4, 0, true), IOOBE);
        for (int cell = 0; cell < 40; cell++) {
            due("cell " + cell + " has none", x.plug(cell / 20, cell / 5 % 4, cell % 5, false), 0);
        }
    }

    // Promise 7.

    private static void apartNoSuchBoxes() {
        Ship x = new Ship(1, 1, 1);
        due("no boxes at all", x.apart(0, 1, true), 0);
        x.boxes(2, 20, 5);
        for (int box : outside(2)) {
            due("0 and " + box, x.apart(0, box, true), 0);
            due(box + " and 1", x.apart(box, 1, true), 0);
            due("twice " + box, x.apart(box, box, true), 0);
            due("not any more, 0 and " + box, x.apart(0, box, false), 0);
        }
        due("those two are not", x.apart(0, 1, false), 0);
        due("those two", x.apart(0, 1, true), 1);
    }

    private static void apartOne() {
        Ship x = new Ship(1, 1, 1);
        x.boxes(40, 20, 5);
        for (int box = 0; box < 40; box++) {
            due("box " + box, x.apart(box, box, true), 0);
            due("not, box " + box, x.apart(box, box, false), 0);
        }
    }

    private static void apartIsSo() {
        Ship x = new Ship(1, 1, 1);
        x.boxes(2, 20, 5);
        due("not at first", x.apart(0, 1, false), 0);
        due("nor the other way", x.apart(1, 0, false), 0);
        due("apart", x.apart(0, 1, true), 1);
        due("it is so", x.apart(0, 1, true), 0);
        due("and the other way", x.apart(1, 0, true), 0);
        due("not any more", x.apart(1, 0, false), 1);
        due("it is so", x.apart(0, 1, false), 0);
        due("apart again", x.apart(1, 0, true), 1);
    }

    /** Box 32 is not box 0, nor 39 box 7: numbers do not wrap around where they are kept. */
    private static void apartOfFarNumbers() {
        for (int far = 0; far < 40; far++) {
            Ship x = new Ship(1, 1, 1);
            x.boxes(40, 20, 5);
            int box = far == 5 ? 6 : 5;
            due(box + " and " + far, x.apart(box, far, true), 1);
            for (int other = 0; other < 40; other++) {
                if (other != box) {
                    due(box + " and " + other + ", not " + far, x.apart(box, other, false), other == far ? 1 : 0);
                }
            }
        }
    }

    // Promises 8 and 9.

    private static void faultsOfNothing() {
        Ship x = new Ship(2, 2, 2);
        due("a new ship", x.check(), 0);
        x.load(0, 1);
        x.box(20, 40, 1, COLD);
        x.box(40, 40, 1, HIGH);
        x.apart(0, 1, true);
        due("boxes that lie nowhere", x.check(), 0);
        x.put(0, 0, 0, 1);
        due("one that lies", x.check(), 3);
        x.take(0);
        due("taken out", x.check(), 0);
    }

    private static void faultsOfMany() {
        Ship x = new Ship(4, 4, 5);
        for (int box = 0; box < 40; box++) {
            x.layKind(40, box % 5 + 1, COLD, box / 20 * 2, box / 5 % 4, box % 5);
        }
        due("a full ship: each is cold, 32 stand on lighter ones", x.check(), 72);
        due("the last one", x.fault(71, 0), 4);
        due("its box", x.fault(71, 1), 39);
        due("none behind it", x.fault(72, 0), IOOBE);
    }

    private static void noSuchFault() {
        Ship x = new Ship(2, 1, 3);
        for (int what = 0; what < 5; what++) {
            due("of none, what " + what, x.fault(0, what), IOOBE);
        }
        x.layKind(20, 5, COLD, 1, 0, 2);
        due("faults", x.faults(), "1:0 4:0");
        for (int i : outside(2)) {
            for (int what = 0; what < 5; what++) {
                due("fault " + i + ", what " + what, x.fault(i, what), IOOBE);
            }
        }
    }

    private static void noSuchWhatOfAFault() {
        Ship x = new Ship(4, 3, 3);
        x.box(20, 5);
        x.layKind(20, 5, COLD, 3, 1, 0);
        int[] parts = {4, 1, 3, 1, 0};
        for (int what = 0; what < 5; what++) {
            due("what " + what, x.fault(0, what), parts[what]);
        }
        for (int what : outside(5)) {
            due("what " + what, x.fault(0, what), IOOBE);
            due("of no fault, what " + what, x.fault(1, what), IOOBE);
        }
    }

    // Promise 10.

    private static void overOfAll() {
        Ship x = new Ship(2, 1, 5);
        due("of nothing", x.over(0), 0);
        for (int tier = 0; tier < 5; tier++) {
            x.layPort(20, tier + 1, 0, 0, tier);
            x.layPort(20, tier + 2, 1, 0, tier);
        }
        int[] pairs = {20, 4, 7, 5, 3, 1, 0};
        for (int port = 0; port < pairs.length; port++) {
            due("port " + port, x.over(port), pairs[port]);
        }
    }

    private static void noSuchPort() {
        Ship x = new Ship(1, 1, 2);
        for (int port : outside(7)) {
            due("of nothing, port " + port, x.over(port), IAE);
        }
        x.layPort(20, 1, 0, 0, 0);
        x.layPort(20, 6, 0, 0, 1);
        for (int port : outside(7)) {
            due("port " + port, x.over(port), IAE);
        }
        due("port 6", x.over(6), 0);
        due("port 1", x.over(1), 1);
    }

    // Promise 12.

    private static void atNone() {
        Ship x = new Ship(2, 1, 1);
        due("never taken", x.at(1, 0, 0), NONE);
        x.lay(40, 5, 0, 0, 0);
        due("the odd cell of a 40", x.at(1, 0, 0), 0);
        x.take(0);
        due("taken out", x.at(1, 0, 0), NONE);
        x.lay(20, 5, 1, 0, 0);
        due("beside a 20", x.at(0, 0, 0), NONE);
    }

    private static void atNoSuchCell() {
        for (int bays = 1; bays <= 4; bays++) {
            Ship x = new Ship(bays, bays, bays);
            for (int no : outside(bays)) {
                due("bay " + no + " of " + bays, x.at(no, 0, 0), IOOBE);
                due("row " + no + " of " + bays, x.at(0, no, 0), IOOBE);
                due("tier " + no + " of " + bays, x.at(0, 0, no), IOOBE);
            }
        }
        Ship y = new Ship(2, 2, 2);
        due("a row's end is no other row", y.at(0, 0, 2) + y.at(0, 2, 0) + y.at(1, 0, -1) + y.at(1, -1, 0), 4 * IOOBE);
    }

    // Promise 13.

    private static void lookAtNone() {
        Ship x = new Ship(4, 4, 5);
        x.box(40, 40, 6, HIGH);
        due("never put", x.place(0), "-1 -1 -1");
        x.put(0, 2, 3, 4);
        due("put", x.place(0), "2 3 4");
        int[] numbers = {40, 40, 6, HIGH};
        for (int what = 0; what < 4; what++) {
            due("what " + what, x.look(0, what), numbers[what]);
        }
        x.take(0);
        due("taken out", x.place(0), "-1 -1 -1");
        x.put(0, 0, 0, 0);
        due("in the first cell", x.place(0), "0 0 0");
    }

    private static void lookAtNoSuchBox() {
        Ship x = new Ship(1, 1, 1);
        for (int what = 0; what < 7; what++) {
            due("no box at all, what " + what, x.look(0, what), IOOBE);
        }
        x.boxes(2, 20, 5);
        for (int box : outside(2)) {
            for (int what = 0; what < 7; what++) {
                due("box " + box + ", what " + what, x.look(box, what), IOOBE);
            }
        }
        due("the last box", x.look(1, 0), 20);
    }

    private static void lookAtNoSuchWhat() {
        Ship x = new Ship(1, 1, 1);
        x.lay(20, 5, 0, 0, 0);
        for (int what : outside(7)) {
            due("what " + what, x.look(0, what), IOOBE);
            due("of no box, what " + what, x.look(1, what), IOOBE);
        }
        due("what 6", x.look(0, 6), 0);
    }

    // Promise 14.

    private static void countsOfNothing() {
        Ship x = new Ship(2, 3, 4);
        int[] counts = {0, 0, 2, 3, 4, 0};
        for (int what = 0; what < counts.length; what++) {
            due("what " + what, x.count(what), counts[what]);
        }
        due("the weight in bay 0", x.count(10), 0);
        due("the weight in bay 1", x.count(11), 0);
        x.boxes(3, 20, 5);
        due("boxes that lie nowhere", x.count(0), 3);
        due("lie not", x.count(1), 0);
        due("weigh nothing", x.count(5) + x.count(10) + x.count(11), 0);
    }

    private static void countsOfAll() {
        Ship x = new Ship(4, 4, 5);
        for (int box = 0; box < 40; box++) {
            x.lay(40, 40, box / 20 * 2, box / 5 % 4, box % 5);
        }
        due("boxes", x.count(0), 40);
        due("lie", x.count(1), 40);
        due("the weight of all, once", x.count(5), 1600);
        for (int bay = 0; bay < 4; bay++) {
            due("bay " + bay, x.count(10 + bay), 800);
        }
    }

    private static void wholeInBoth() {
        Ship x = new Ship(4, 1, 1);
        x.lay(40, 7, 0, 0, 0);
        x.lay(20, 2, 3, 0, 0);
        int[] weights = {7, 7, 0, 2, NONE};
        for (int bay = 0; bay < weights.length; bay++) {
            due("bay " + bay, x.count(10 + bay), weights[bay]);
        }
        due("of all", x.count(5), 9);
    }

    private static void countOfAnother() {
        for (int bays = 1; bays <= 4; bays++) {
            Ship x = new Ship(bays, 1, 1);
            for (int bay = 0; bay < bays; bay++) {
                x.lay(20, 9, bay, 0, 0);
            }
            for (int what = 6; what < 40; what++) {
                due("what " + what + " of " + bays + " bays", x.count(what), what >= 10 && what < 10 + bays ? 9 : NONE);
            }
            for (int what = -40; what < 0; what++) {
                due("what " + what, x.count(what), NONE);
            }
            for (int what = 0; what < 16; what++) {
                due("what far below 0", x.count(LEAST + what), NONE);
                due("what far above", x.count(MOST - what), NONE);
            }
            due("what 256", x.count(256) + x.count(256 + 10) + x.count(65536) + x.count(65536 + 10), 4 * NONE);
        }
    }

    public static void main(String[] args) {
        section("Terms");
        sentence("The constants: `NONE = -1`: None.", () -> due("NONE", StowPlan.NONE, -1));

        section("Promise 1");
        sentence("So many bays (1 .. 4), rows (1 .. 4), tiers (1 .. 5), held to these.", () -> {
            heldUp();
            heldDown();
            heldEachByItself();
        });
        sentence("A new object", StowPlanEdges::newIsEmpty);

        section("Promise 2");
        sentence("One more BOX: its number.", StowPlanEdges::itsNumber);
        sentence("IllegalArgumentException if its numbers can't be", StowPlanEdges::numbersThatCannotBe);
        sentence("IllegalStateException if there are 40.", StowPlanEdges::thereAreForty);

        section("Promise 3");
        sentence("PUT: true; false if there is no such box", StowPlanEdges::putNoSuchBox);
        sentence("it lies somewhere", StowPlanEdges::putLying);
        sentence("or a cell is taken.", StowPlanEdges::putTaken);
        sentence("IndexOutOfBoundsException if there is no such cell", () -> {
            putNoSuchCell();
            putThrowsBeforeItRefuses();
        });
        sentence("of a box of 40 either; its bay has to be even", StowPlanEdges::putLongNoSuchCell);

        section("Promise 4");
        sentence("TAKEN out: true; false if there is no such box", StowPlanEdges::takeNoSuchBox);
        sentence("or it lies nowhere.", StowPlanEdges::takeLyingNowhere);

        section("Promise 5");
        sentence("A bay's LOAD: true; false if there is no such bay", StowPlanEdges::loadNoSuchBay);
        sentence("or it can't be.", StowPlanEdges::loadThatCannotBe);

        section("Promise 6");
        sentence("A cell has a PLUG, or none any more: true; false if it is so.", StowPlanEdges::plugIsSo);
        sentence("IndexOutOfBoundsException if there is no such cell.", StowPlanEdges::plugNoSuchCell);

        section("Promise 7");
        sentence("Two boxes are KEPT APART, or not any more: true", StowPlanEdges::apartOfFarNumbers);
        sentence("false if there are none such", StowPlanEdges::apartNoSuchBoxes);
        sentence("they are one", StowPlanEdges::apartOne);
        sentence("or it is so.", StowPlanEdges::apartIsSo);

        section("Promise 8");
        sentence("How many FAULTS there are.", () -> {
            faultsOfNothing();
            faultsOfMany();
        });

        section("Promise 9");
        sentence("IndexOutOfBoundsException if there is none such", StowPlanEdges::noSuchFault);
        sentence("or no such what.", StowPlanEdges::noSuchWhatOfAFault);

        section("Promise 10");
        sentence("with 0 of all.", StowPlanEdges::overOfAll);
        sentence("IllegalArgumentException if there is no such port.", StowPlanEdges::noSuchPort);

        section("Promise 12");
        sentence("Which box lies in a cell; NONE.", StowPlanEdges::atNone);
        sentence("IndexOutOfBoundsException if there is no such cell.", StowPlanEdges::atNoSuchCell);

        section("Promise 13");
        sentence("4: bay (NONE), 5: row (NONE), 6: tier (NONE).", StowPlanEdges::lookAtNone);
        sentence("IndexOutOfBoundsException if there is none such", StowPlanEdges::lookAtNoSuchBox);
        sentence("or no such what.", StowPlanEdges::lookAtNoSuchWhat);

        section("Promise 14");
        sentence("what 0: boxes, 1: those that lie somewhere, 2: bays, 3: rows, 4: tiers, 5: weight of all that lies",
            () -> {
                countsOfNothing();
                countsOfAll();
            });
        sentence("from 10 on the weight in bay what - 10 (a box of 40 counts whole in both).",
            StowPlanEdges::wholeInBoth);
        sentence("NONE for another what or bay.", StowPlanEdges::countOfAnother);
        end();
    }
}
