/** The document's words on FILL, sentence by sentence. */
public final class StowPlanFill extends Sentences {

    // Which boxes.

    private static void onlyShort() {
        Ship x = new Ship(2, 1, 5);
        x.boxes(4, 40, 5);
        due("boxes of 40 alone", x.fill(0), 0);
        x.boxes(2, 20, 5);
        due("four of 40 before them", x.fill(0), 2);
        due("where they lie", x.rowsAndTiers(6), "- - - - 0/0 0/1");
    }

    private static void onlyThoseNowhere() {
        Ship x = new Ship(2, 2, 5);
        for (int tier = 0; tier < 4; tier++) {
            x.lay(20, 5, 1, 1, tier);
        }
        due("all lie", x.fill(0), 0);
        x.box(20, 5);
        due("four that lie before it", x.fill(0), 1);
        due("they stay", x.rowsAndTiers(5), "1/0 1/1 1/2 1/3 0/0");
        x.take(2);
        due("one taken out", x.fill(0), 1);
        due("where it lies", x.place(2), "0 0 1");
    }

    private static void firstFour() {
        for (int boxes = 0; boxes <= 6; boxes++) {
            Ship x = new Ship(1, 4, 5);
            x.boxes(boxes, 20, 5);
            due("of " + boxes, x.fill(0), Math.min(4, boxes));
            due("of the rest", x.fill(0), Math.max(0, boxes - 4));
        }
    }

    private static void noFifthInstead() {
        Ship x = new Ship(1, 1, 5);
        x.box(20, 5, 1, COLD);
        x.boxes(4, 20, 5);
        due("one of the four can't be put", x.fill(0), 3);
        due("where they lie", x.rowsAndTiers(5), "- 0/0 0/1 0/2 -");
        Ship y = new Ship(1, 1, 5);
        for (int i = 0; i < 4; i++) {
            y.box(20, 5, 1, COLD);
        }
        y.box(20, 5);
        due("none of the four can", y.fill(0), 0);
        due("the fifth", y.place(4), "-1 -1 -1");
    }

    // Where.

    private static void aboveAll() {
        for (int tier = 0; tier < 4; tier++) {
            Ship x = new Ship(2, 1, 5);
            x.lay(20, 5, 1, 0, tier);
            x.box(20, 5);
            due("one", x.fill(1), 1);
            due("above one in tier " + tier, x.place(1), "1 0 " + (tier + 1));
        }
        Ship y = new Ship(2, 1, 5);
        y.lay(40, 5, 0, 0, 2);
        y.boxes(2, 20, 5);
        due("above the odd cell of 40", y.fill(1), 2);
        due("where they lie", y.rowsAndTiers(3), "0/2 0/3 0/4");
    }

    private static void noCellAbove() {
        Ship x = new Ship(1, 4, 2);
        x.lay(20, 9, 0, 0, 1);
        x.lay(20, 9, 0, 1, 0);
        x.lay(20, 9, 0, 1, 1);
        x.lay(20, 9, 0, 3, 1);
        x.boxes(3, 20, 5);
        due("one row has cells above all", x.fill(0), 2);
        due("where they lie", x.rowsAndTiers(7), "0/1 1/0 1/1 3/1 2/0 2/1 -");
        due("the bay is full", x.fill(0), 0);
    }

    private static void oneCellAlone() {
        Ship x = new Ship(1, 1, 1);
        x.boxes(4, 20, 5);
        due("a ship of one cell", x.fill(0), 1);
        due("which", x.at(0, 0, 0), 0);
        due("then it is full", x.fill(0), 0);
    }

    private static void theBayAlone() {
        for (int bay = 0; bay < 4; bay++) {
            Ship x = new Ship(4, 1, 1);
            x.boxes(4, 20, 5);
            due("one cell", x.fill(bay), 1);
            for (int other = 0; other < 4; other++) {
                due("bay " + other, x.at(other, 0, 0), other == bay ? 0 : NONE);
            }
        }
    }

    // As many as can be, without faults 2, 3 and 4.

    private static void asMany() {
        Ship order = new Ship(1, 1, 4);
        for (int weight = 1; weight <= 4; weight++) {
            order.box(20, weight);
        }
        due("the heaviest first", order.fill(0), 4);
        due("where they lie", order.rowsAndTiers(4), "0/3 0/2 0/1 0/0");

        Ship load = new Ship(1, 1, 5);
        load.load(0, 10);
        load.box(20, 8);
        load.boxes(3, 20, 3);
        due("three light ones instead of the first", load.fill(0), 3);
        due("where they lie", load.rowsAndTiers(4), "- 0/0 0/1 0/2");

        Ship over = new Ship(1, 1, 3);
        over.layPort(20, 1, 0, 0, 0);
        over.box(20, 5, 6, PLAIN);
        over.box(20, 5, 6, PLAIN);
        due("whatever overstows", over.fill(0), 2);
        due("overstows", over.over(0), 2);
    }

    private static void fault2() {
        for (int most = 9; most <= 16; most++) {
            Ship x = new Ship(1, 1, 5);
            x.load(0, most);
            x.boxes(4, 20, 5);
            due("boxes of 5 on a load of " + most, x.fill(0), most / 5);
        }
        Ship y = new Ship(2, 1, 5);
        y.load(0, 5);
        y.load(1, 15);
        y.boxes(4, 20, 5);
        due("the bay's own load", y.fill(1), 3);
        Ship z = new Ship(2, 1, 5);
        z.lay(40, 11, 0, 0, 0);
        z.load(1, 20);
        z.boxes(2, 20, 5);
        due("40 weighs whole in its odd bay", z.fill(1), 1);
    }

    private static void fault2Before() {
        Ship x = new Ship(1, 1, 5);
        x.lay(20, 9, 0, 0, 0);
        x.load(0, 8);
        x.box(20, 5);
        due("too heavy without it", x.fill(0), 1);
        due("faults", x.faults(), "2:0");
    }

    private static void fault3() {
        for (int weight = 4; weight <= 6; weight++) {
            Ship x = new Ship(1, 1, 5);
            x.lay(20, 5, 0, 0, 1);
            x.box(20, weight);
            due(weight + " on 5", x.fill(0), weight <= 5 ? 1 : 0);
        }
    }

    private static void fault4() {
        Ship x = new Ship(2, 2, 2);
        x.box(20, 5, 1, COLD);
        due("no plug", x.fill(1), 0);
        x.plug(0, 0, 0, true);
        x.plug(1, 0, 1, true);
        due("plugs elsewhere", x.fill(1), 0);
        x.plug(1, 1, 0, true);
        due("a plug", x.fill(1), 1);
        due("where", x.place(0), "1 1 0");
    }

    private static void whereItIsPutThen() {
        Ship x = new Ship(1, 2, 3);
        x.plug(0, 1, 1, true);
        x.box(20, 3, 1, COLD);
        x.box(20, 3, 1, PLAIN);
        due("one below lifts it to the plug", x.fill(0), 2);
        due("where they lie", x.rowsAndTiers(2), "1/1 1/0");
    }

    private static void fault1DoesNotMatter() {
        Ship x = new Ship(1, 1, 3);
        x.lay(20, 5, 0, 0, 1);
        x.box(20, 5);
        due("above an empty cell", x.fill(0), 1);
        due("is told", x.faults(), "1:0 1:1");
    }

    private static void fault5DoesNotMatter() {
        Ship x = new Ship(1, 1, 2);
        x.box(20, 5, 1, HIGH);
        x.box(20, 5, 1, HIGH);
        due("in the highest tier, and below something", x.fill(0), 2);
        due("are told", x.faults(), "5:0 5:1");
    }

    private static void fault6DoesNotMatter() {
        for (int free = 0; free < 2; free++) {
            Ship x = new Ship(1, 1, 2);
            x.boxes(2, 20, 5);
            x.apart(0, 1, true);
            x.put(1 - free, 0, 0, 0);
            due("box " + free + " onto one it is kept apart from", x.fill(0), 1);
            due("is told", x.faults(), "6:0");
        }
    }

    // Of such ways.

    private static void fewestOverstows() {
        Ship x = new Ship(1, 2, 2);
        x.box(20, 5, 3, PLAIN);
        x.box(20, 5, 2, PLAIN);
        x.layPort(20, 1, 0, 0, 0);
        due("those that lie count too", x.fill(0), 2);
        due("where they lie", x.rowsAndTiers(2), "1/0 1/1");

        Ship y = new Ship(2, 2, 2);
        y.box(20, 5, 3, PLAIN);
        y.layPort(40, 2, 0, 0, 0);
        due("so does a 40 in its odd bay", y.fill(1), 1);
        due("where", y.place(0), "1 1 0");

        Ship z = new Ship(1, 2, 5);
        z.box(20, 5, 6, PLAIN);
        z.layPort(20, 1, 0, 0, 0);
        z.layPort(20, 1, 0, 0, 1);
        z.layPort(20, 1, 0, 1, 2);
        due("one is fewer than two", z.fill(0), 1);
        due("where", z.place(0), "0 1 3");
    }

    private static void fewestOfTheirOwn() {
        Ship x = new Ship(1, 1, 4);
        for (int port = 1; port <= 4; port++) {
            x.box(20, 5, port, PLAIN);
        }
        due("the latest first", x.fill(0), 4);
        due("where they lie", x.rowsAndTiers(4), "0/3 0/2 0/1 0/0");
        due("overstows", x.over(0), 0);

        Ship y = new Ship(1, 1, 1);
        y.lay(20, 5, 0, 0, 0);
        y.box(20, 5, 6, PLAIN);
        due("a full bay", y.fill(0), 0);

        Ship z = new Ship(1, 1, 2);
        z.layPort(20, 3, 0, 0, 0);
        z.box(20, 5, 6, PLAIN);
        z.box(20, 5, 2, PLAIN);
        due("not all can be put", z.fill(0), 1);
        due("the one without an overstow", z.at(0, 0, 1), 2);
    }

    /** Weights allow one order alone: two rows of two have two overstows, any other way has more. */
    private static void fewestInSum() {
        Ship x = new Ship(1, 2, 5);
        for (int port = 1; port <= 4; port++) {
            x.box(20, 5 - port, port, PLAIN);
        }
        due("all", x.fill(0), 4);
        due("where they lie", x.rowsAndTiers(4), "0/0 0/1 1/0 1/1");
        due("overstows", x.over(0), 2);

        Ship y = new Ship(1, 1, 2);
        y.box(20, 3, 2, PLAIN);
        y.box(20, 3, 1, PLAIN);
        y.box(20, 1, 4, PLAIN);
        due("two of three", y.fill(0), 2);
        due("those without an overstow", y.rowsAndTiers(3), "0/0 0/1 -");
    }

    private static void asManyOverstows() {
        Ship x = new Ship(1, 1, 2);
        x.box(20, 1, 2, PLAIN);
        x.box(20, 1, 3, PLAIN);
        x.layPort(20, 1, 0, 0, 0);
        due("one cell, an overstow by either", x.fill(0), 1);
        due("the first", x.at(0, 0, 1), 0);
    }

    private static void firstBoxByNumber() {
        Ship x = new Ship(1, 1, 1);
        x.boxes(2, 20, 1);
        due("one cell", x.fill(0), 1);
        due("which", x.at(0, 0, 0), 0);
        Ship y = new Ship(1, 1, 5);
        y.boxes(4, 20, 1);
        due("four alike", y.fill(0), 4);
        due("by number", y.rowsAndTiers(4), "0/0 0/1 0/2 0/3");
    }

    /** The box of the less number comes first, though it might stand in row 0 if it came second. */
    private static void boxBeforeRow() {
        Ship x = new Ship(1, 2, 2);
        x.box(20, 1, 1, PLAIN);
        x.box(20, 1, 2, PLAIN);
        due("both", x.fill(0), 2);
        due("where they lie", x.rowsAndTiers(2), "0/0 1/0");
        Ship y = new Ship(1, 2, 2);
        y.plug(0, 0, 0, true);
        y.box(20, 1, 1, PLAIN);
        y.box(20, 2, 2, COLD);
        due("both", y.fill(0), 2);
        due("box 0 first, whatever its row", y.rowsAndTiers(2), "1/0 0/0");
    }

    private static void itsRow() {
        Ship x = new Ship(1, 4, 1);
        x.boxes(4, 20, 1);
        due("four rows", x.fill(0), 4);
        due("rows ascend", x.rowsAndTiers(4), "0/0 1/0 2/0 3/0");
        Ship y = new Ship(1, 4, 2);
        y.lay(20, 1, 0, 0, 1);
        y.box(20, 1);
        due("row 0 is full", y.fill(0), 1);
        due("the next one", y.place(1), "0 1 0");
    }

    /** Box 0 in row 0 keeps box 1 from the plug: its row counts before the second box's number. */
    private static void rowBeforeSecond() {
        Ship x = new Ship(1, 2, 1);
        x.plug(0, 0, 0, true);
        x.box(20, 3, 1, PLAIN);
        x.box(20, 1, 1, COLD);
        x.box(20, 1, 1, PLAIN);
        due("two", x.fill(0), 2);
        due("where they lie", x.rowsAndTiers(3), "0/0 - 1/0");
    }

    // Promise 11.

    private static void howMany() {
        for (int free = 0; free <= 5; free++) {
            Ship x = new Ship(1, 1, 5);
            for (int tier = 0; tier < 5 - free; tier++) {
                x.lay(20, 5, 0, 0, tier);
            }
            x.boxes(5, 20, 5);
            due(free + " cells free", x.fill(0), Math.min(4, free));
            due("those that lie", x.count(1), 5 - free + Math.min(4, free));
        }
    }

    private static void noSuchBay() {
        for (int bays = 1; bays <= 4; bays++) {
            Ship x = new Ship(bays, 1, 1);
            x.box(20, 5);
            for (int bay : outside(bays)) {
                due("fill of bay " + bay + " of " + bays, x.fill(bay), IOOBE);
            }
            due("none lies", x.count(1), 0);
            due("the last bay", x.fill(bays - 1), 1);
        }
        Ship empty = new Ship(2, 1, 1);
        due("without boxes", empty.fill(2), IOOBE);
    }

    public static void main(String[] args) {
        section("Terms, FILL");
        sentence("the boxes of 20", StowPlanFill::onlyShort);
        sentence("that lie nowhere", StowPlanFill::onlyThoseNowhere);
        sentence("the first 4 by number", () -> {
            firstFour();
            noFifthInstead();
        });
        sentence("the lowest empty cell above all that lies in that row", StowPlanFill::aboveAll);
        sentence("there must be one", () -> {
            noCellAbove();
            oneCellAlone();
        });
        sentence("each onto a STACK of the bay", StowPlanFill::theBayAlone);
        sentence("as many as can be", StowPlanFill::asMany);
        sentence("so that none of them makes faults 2", () -> {
            fault2();
            fault2Before();
        });
        sentence("makes faults 2, 3", StowPlanFill::fault3);
        sentence("3 or 4", StowPlanFill::fault4);
        sentence("where it is put then", StowPlanFill::whereItIsPutThen);
        sentence("faults 2, 3 or 4", () -> {
            fault1DoesNotMatter();
            fault5DoesNotMatter();
            fault6DoesNotMatter();
        });
        sentence("of such ways one with the fewest OVERSTOWS of all the bay", () -> {
            fewestOverstows();
            fewestOfTheirOwn();
            fewestInSum();
        });
        sentence("of such the first: the first put box by number", () -> {
            asManyOverstows();
            firstBoxByNumber();
            boxBeforeRow();
        });
        sentence("its row", StowPlanFill::itsRow);
        sentence("the second ..", StowPlanFill::rowBeforeSecond);

        section("Promise 11");
        sentence("FILL: how many boxes were put.", StowPlanFill::howMany);
        sentence("IndexOutOfBoundsException if there is no such bay.", StowPlanFill::noSuchBay);
        end();
    }
}
