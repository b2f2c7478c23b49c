/**
 * Stowage of a ship: cells by bays, rows and tiers, boxes of one or two cells, faults of a plan,
 * overstows by ports, boxes kept apart, and the best fill of a bay.
 */
public final class StowPlan {
    public static final int NONE = -1;

    private static final int MOST_BAYS = 4;
    private static final int MOST_ROWS = 4;
    private static final int MOST_TIERS = 5;
    private static final int MOST_BOXES = 40;
    private static final int MOST_WEIGHT = 40;
    private static final int MOST_PORT = 6;
    private static final int MOST_LOAD = 200;
    private static final int FIRST_LOAD = 100;
    private static final int FILL_BOXES = 4;

    private static final int SHORT = 20;
    private static final int LONG = 40;
    private static final int PLAIN = 0;
    private static final int COLD = 1;
    private static final int HIGH = 2;

    private static final int EMPTY_BELOW = 1;
    private static final int TOO_HEAVY = 2;
    private static final int ON_LIGHTER = 3;
    private static final int NO_PLUG = 4;
    private static final int NO_ROOM_ABOVE = 5;
    private static final int NOT_APART = 6;
    private static final int ON_ONE_SHORT = 7;

    private static final int LAST_FAULT_PART = 4;
    private static final int LAST_BOX_PART = 6;
    private static final int COUNT_OF_BAYS = 10;

    private final int bays;
    private final int rows;
    private final int tiers;
    private final Box[] boxes;
    private int boxCount;
    private final Box[] cells;
    private final boolean[] plugs;
    private final int[] loads;

    // What a fill works with, made once: a fill makes no objects.
    private final Box[] candidates;
    private int candidateCount;
    private final Way trial;
    private final Way best;

    public StowPlan(int bays, int rows, int tiers) {
        this.bays = held(bays, MOST_BAYS);
        this.rows = held(rows, MOST_ROWS);
        this.tiers = held(tiers, MOST_TIERS);
        int cellCount = this.bays * this.rows * this.tiers;
        boxes = new Box[MOST_BOXES];
        cells = new Box[cellCount];
        plugs = new boolean[cellCount];
        loads = new int[MOST_BAYS];
        for (int bay = 0; bay < loads.length; bay++) {
            loads[bay] = FIRST_LOAD;
        }
        candidates = new Box[FILL_BOXES];
        trial = new Way();
        best = new Way();
    }

    public int box(int size, int weight, int port, int kind)
            throws IllegalArgumentException, IllegalStateException {
        if (!canBeBox(size, weight, port, kind)) {
            throw new IllegalArgumentException("no box has such numbers");
        }
        if (boxCount >= boxes.length) {
            throw new IllegalStateException("there are 40 boxes");
        }
        int number = boxCount;
        boxes[number] = new Box(number, size, weight, port, kind);
        boxCount++;
        return number;
    }

    public boolean put(int box, int bay, int row, int tier) throws IndexOutOfBoundsException {
        Box it = boxOf(box);
        if (!isCell(bay, row, tier) || it != null && it.isLong() && !canHoldLong(bay)) {
            throw new IndexOutOfBoundsException("no such cell");
        }
        if (it == null || it.lies() || !areEmpty(bay, it.lastBayFrom(bay), row, tier)) {
            return false;
        }
        lay(it, bay, row, tier);
        return true;
    }

    public boolean take(int box) {
        Box it = boxOf(box);
        if (it == null || !it.lies()) {
            return false;
        }
        lift(it);
        return true;
    }

    public boolean load(int bay, int most) {
        if (!isBay(bay) || most < 1 || most > MOST_LOAD) {
            return false;
        }
        loads[bay] = most;
        return true;
    }

    public boolean plug(int bay, int row, int tier, boolean is) throws IndexOutOfBoundsException {
        int cell = cellIndex(bay, row, tier);
        if (cell == NONE) {
            throw new IndexOutOfBoundsException("no such cell");
        }
        if (plugs[cell] == is) {
            return false;
        }
        plugs[cell] = is;
        return true;
    }

    public boolean apart(int box, int other, boolean is) {
        Box one = boxOf(box);
        Box two = boxOf(other);
        if (one == null || two == null || one == two || one.isKeptApartFrom(two) == is) {
            return false;
        }
        one.keepApartFrom(two, is);
        two.keepApartFrom(one, is);
        return true;
    }

    public int check() {
        int faults = 0;
        for (int number = 0; number < boxCount; number++) {
            Box box = boxOf(number);
            if (box != null && box.lies()) {
                faults += faultsOf(box);
            }
        }
        return faults;
    }

    public int fault(int i, int what) throws IndexOutOfBoundsException {
        if (i < 0 || what < 0 || what > LAST_FAULT_PART) {
            throw new IndexOutOfBoundsException("no such fault, or nothing such of it");
        }
        int left = i;
        for (int cell = 0; cell < cells.length; cell++) {
            Box box = cells[cell];
            // A box of 40 is met twice, and told of in its even bay alone.
            if (box == null || cellIndex(box.bay, box.row, box.tier) != cell) {
                continue;
            }
            int faults = faultsOf(box);
            if (left < faults) {
                return faultPart(box, left, what);
            }
            left -= faults;
        }
        throw new IndexOutOfBoundsException("no such fault");
    }

    public int over(int port) throws IllegalArgumentException {
        if (port < 0 || port > MOST_PORT) {
            throw new IllegalArgumentException("no such port");
        }
        int pairs = 0;
        for (int number = 0; number < boxCount; number++) {
            Box lower = boxOf(number);
            if (lower != null && (port == 0 || lower.port == port)) {
                pairs += overstowsAbove(lower);
            }
        }
        return pairs;
    }

    public int fill(int bay) throws IndexOutOfBoundsException {
        if (!isBay(bay)) {
            throw new IndexOutOfBoundsException("no such bay");
        }
        gatherCandidates();
        trial.clear();
        best.clear();
        extendTrial(bay, 0);
        for (int step = 0; step < best.length; step++) {
            layOnStack(best.boxOfStep(step), bay, best.rowOfStep(step));
        }
        return best.length;
    }

    public int at(int bay, int row, int tier) throws IndexOutOfBoundsException {
        if (!isCell(bay, row, tier)) {
            throw new IndexOutOfBoundsException("no such cell");
        }
        Box box = boxIn(bay, row, tier);
        return box == null ? NONE : box.number;
    }

    public int look(int box, int what) throws IndexOutOfBoundsException {
        Box it = boxOf(box);
        if (it == null || what < 0 || what > LAST_BOX_PART) {
            throw new IndexOutOfBoundsException("no such box, or nothing such of it");
        }
        switch (what) {
            case 0: return it.size;
            case 1: return it.weight;
            case 2: return it.port;
            case 3: return it.kind;
            case 4: return it.bay;
            case 5: return it.row;
            default: return it.tier;
        }
    }

    public int count(int what) {
        switch (what) {
            case 0: return boxCount;
            case 1: return lyingBoxes();
            case 2: return bays;
            case 3: return rows;
            case 4: return tiers;
            case 5: return weightInBays(0, bays - 1);
            default: break;
        }
        if (what < COUNT_OF_BAYS || !isBay(what - COUNT_OF_BAYS)) {
            return NONE;
        }
        return weightInBays(what - COUNT_OF_BAYS, what - COUNT_OF_BAYS);
    }

    private static int held(int value, int most) {
        return Math.max(1, Math.min(most, value));
    }

    private static boolean canBeBox(int size, int weight, int port, int kind) {
        return (size == SHORT || size == LONG)
                && weight >= 1 && weight <= MOST_WEIGHT
                && port >= 1 && port <= MOST_PORT
                && kind >= PLAIN && kind <= HIGH;
    }

    // Cells and boxes.

    private boolean isBay(int bay) {
        return bay >= 0 && bay < bays;
    }

    private boolean isCell(int bay, int row, int tier) {
        return cellIndex(bay, row, tier) != NONE;
    }

    private boolean canHoldLong(int bay) {
        return bay % 2 == 0 && isBay(bay + 1);
    }

    /** Indices ascend by bay, row and tier: the order in which faults are told. */
    private int cellIndex(int bay, int row, int tier) {
        if (bay < 0 || bay >= bays || row < 0 || row >= rows || tier < 0 || tier >= tiers) {
            return NONE;
        }
        return (bay * rows + row) * tiers + tier;
    }

    private Box boxOf(int number) {
        return number >= 0 && number < boxCount ? boxes[number] : null;
    }

    private Box boxIn(int bay, int row, int tier) {
        int cell = cellIndex(bay, row, tier);
        return cell == NONE ? null : cells[cell];
    }

    private boolean areEmpty(int firstBay, int lastBay, int row, int tier) {
        for (int bay = firstBay; bay <= lastBay; bay++) {
            if (boxIn(bay, row, tier) != null) {
                return false;
            }
        }
        return true;
    }

    private void lay(Box box, int bay, int row, int tier) {
        box.moveTo(bay, row, tier);
        setCellsOf(box, box);
    }

    private void lift(Box box) {
        setCellsOf(box, null);
        box.moveTo(NONE, NONE, NONE);
    }

    private void setCellsOf(Box box, Box content) {
        for (int bay = box.bay; bay <= box.lastBay(); bay++) {
            int cell = cellIndex(bay, box.row, box.tier);
            if (cell != NONE) {
                cells[cell] = content;
            }
        }
    }

    private int lyingBoxes() {
        int lying = 0;
        for (int number = 0; number < boxCount; number++) {
            Box box = boxOf(number);
            if (box != null && box.lies()) {
                lying++;
            }
        }
        return lying;
    }

    private int weightInBays(int firstBay, int lastBay) {
        int weight = 0;
        for (int number = 0; number < boxCount; number++) {
            Box box = boxOf(number);
            if (box != null && box.lies() && box.reachesInto(firstBay, lastBay)) {
                weight += box.weight;
            }
        }
        return weight;
    }

    // Faults, each asked of a box that lies somewhere.

    private int faultsOf(Box box) {
        int faults = 0;
        for (int rule = EMPTY_BELOW; rule <= ON_ONE_SHORT; rule++) {
            if (breaksRule(box, rule)) {
                faults++;
            }
        }
        return faults;
    }

    private int faultPart(Box box, int nth, int what) {
        switch (what) {
            case 0: return nthFaultOf(box, nth);
            case 1: return box.number;
            case 2: return box.bay;
            case 3: return box.row;
            default: return box.tier;
        }
    }

    private int nthFaultOf(Box box, int nth) {
        int left = nth;
        for (int rule = EMPTY_BELOW; rule <= ON_ONE_SHORT; rule++) {
            if (breaksRule(box, rule)) {
                if (left == 0) {
                    return rule;
                }
                left--;
            }
        }
        return NONE;
    }

    private boolean breaksRule(Box box, int rule) {
        switch (rule) {
            case EMPTY_BELOW: return hasEmptyBelow(box);
            case TOO_HEAVY: return makesStackTooHeavy(box);
            case ON_LIGHTER: return standsOnLighter(box);
            case NO_PLUG: return lacksPlug(box);
            case NO_ROOM_ABOVE: return lacksRoomAbove(box);
            case NOT_APART: return touchesOneKeptApart(box);
            case ON_ONE_SHORT: return standsOnOneShort(box);
            default: return false;
        }
    }

    private boolean hasEmptyBelow(Box box) {
        for (int bay = box.bay; bay <= box.lastBay(); bay++) {
            for (int tier = 0; tier < box.tier; tier++) {
                if (boxIn(bay, box.row, tier) == null) {
                    return true;
                }
            }
        }
        return false;
    }

    private boolean makesStackTooHeavy(Box box) {
        for (int bay = box.bay; bay <= box.lastBay(); bay++) {
            int below = weightBelow(bay, box.row, box.tier);
            if (isBay(bay) && below <= loads[bay] && below + box.weight > loads[bay]) {
                return true;
            }
        }
        return false;
    }

    private int weightBelow(int bay, int row, int top) {
        int weight = 0;
        for (int tier = 0; tier < top; tier++) {
            Box box = boxIn(bay, row, tier);
            if (box != null) {
                weight += box.weight;
            }
        }
        return weight;
    }

    private boolean standsOnLighter(Box box) {
        for (int bay = box.bay; bay <= box.lastBay(); bay++) {
            Box below = boxIn(bay, box.row, box.tier - 1);
            if (below != null && below.weight < box.weight) {
                return true;
            }
        }
        return false;
    }

    private boolean lacksPlug(Box box) {
        int cell = cellIndex(box.bay, box.row, box.tier);
        return box.kind == COLD && cell != NONE && !plugs[cell];
    }

    private boolean lacksRoomAbove(Box box) {
        if (box.kind != HIGH) {
            return false;
        }
        return box.tier == tiers - 1 || !areEmpty(box.bay, box.lastBay(), box.row, box.tier + 1);
    }

    /** The rule is told of the box with the less number, so only greater ones are asked. */
    private boolean touchesOneKeptApart(Box box) {
        for (int number = box.number + 1; number < boxCount; number++) {
            Box other = boxOf(number);
            if (other != null && other.lies() && box.isKeptApartFrom(other) && box.touches(other)) {
                return true;
            }
        }
        return false;
    }

    private boolean standsOnOneShort(Box box) {
        if (!box.isLong()) {
            return false;
        }
        int shorts = 0;
        for (int bay = box.bay; bay <= box.lastBay(); bay++) {
            Box below = boxIn(bay, box.row, box.tier - 1);
            if (below != null && !below.isLong()) {
                shorts++;
            }
        }
        return shorts == 1;
    }

    // Overstows.

    private int overstowsAbove(Box lower) {
        int pairs = 0;
        for (int number = 0; number < boxCount; number++) {
            Box upper = boxOf(number);
            if (upper != null && upper.overstows(lower)) {
                pairs++;
            }
        }
        return pairs;
    }

    /** Looks down one stack alone, which is all that a fill needs: its boxes are of one bay. */
    private int overstowsBelow(Box upper) {
        int pairs = 0;
        for (int tier = 0; tier < upper.tier; tier++) {
            Box lower = boxIn(upper.bay, upper.row, tier);
            if (lower != null && upper.overstows(lower)) {
                pairs++;
            }
        }
        return pairs;
    }

    // The best fill of a bay: all ways are tried in their order, the boxes laid and lifted again.

    private void gatherCandidates() {
        candidateCount = 0;
        for (int number = 0; number < boxCount && candidateCount < candidates.length; number++) {
            Box box = boxOf(number);
            if (box != null && !box.isLong() && !box.lies()) {
                candidates[candidateCount] = box;
                candidateCount++;
            }
        }
    }

    /** Ways are met in the document's order, so that of equally good ones the first is kept. */
    private void extendTrial(int bay, int depth) {
        if (trial.isBetterThan(best)) {
            best.become(trial);
        }
        if (depth >= candidateCount || depth >= candidates.length) {
            return;
        }
        for (int i = 0; i < candidateCount && i < candidates.length; i++) {
            for (int row = 0; row < rows; row++) {
                tryStep(candidates[i], bay, row, depth);
            }
        }
    }

    private void tryStep(Box box, int bay, int row, int depth) {
        if (box == null || box.lies() || !layOnStack(box, bay, row)) {
            return;
        }
        boolean fits = !makesStackTooHeavy(box) && !standsOnLighter(box) && !lacksPlug(box);
        int made = fits ? overstowsBelow(box) : 0;
        if (fits && !isHopeless(trial.overstows + made)) {
            trial.add(box, row, made);
            extendTrial(bay, depth + 1);
            trial.dropLast(made);
        }
        lift(box);
    }

    /** Overstows only grow along a way: one that has as many as a full best way can't win. */
    private boolean isHopeless(int overstows) {
        return best.length == candidateCount && overstows >= best.overstows;
    }

    private boolean layOnStack(Box box, int bay, int row) {
        int tier = heightOfStack(bay, row);
        if (box == null || !isCell(bay, row, tier)) {
            return false;
        }
        lay(box, bay, row, tier);
        return true;
    }

    private int heightOfStack(int bay, int row) {
        int height = tiers;
        while (height > 0 && boxIn(bay, row, height - 1) == null) {
            height--;
        }
        return height;
    }

    private static final class Box {
        final int number;
        final int size;
        final int weight;
        final int port;
        final int kind;
        int bay;
        int row;
        int tier;
        // One bit for each other box: a row of flags would be 40 elements a box.
        private long keptApart;

        Box(int number, int size, int weight, int port, int kind) {
            this.number = number;
            this.size = size;
            this.weight = weight;
            this.port = port;
            this.kind = kind;
            bay = NONE;
            row = NONE;
            tier = NONE;
        }

        boolean isLong() {
            return size == LONG;
        }

        int lastBay() {
            return lastBayFrom(bay);
        }

        int lastBayFrom(int firstBay) {
            return size == LONG ? firstBay + 1 : firstBay;
        }

        boolean lies() {
            return bay != NONE;
        }

        void moveTo(int newBay, int newRow, int newTier) {
            bay = newBay;
            row = newRow;
            tier = newTier;
        }

        boolean isKeptApartFrom(Box other) {
            return (keptApart >> other.number & 1L) != 0L;
        }

        void keepApartFrom(Box other, boolean is) {
            long bit = 1L << other.number;
            keptApart = is ? keptApart | bit : keptApart & ~bit;
        }

        boolean reachesInto(int firstBay, int endBay) {
            return bay <= endBay && lastBay() >= firstBay;
        }

        boolean overstows(Box lower) {
            return lies() && lower.lies() && row == lower.row && tier > lower.tier
                    && reachesInto(lower.bay, lower.lastBay()) && port > lower.port;
        }

        /** Cells touch if they are one step apart, along bays, rows or tiers. */
        boolean touches(Box other) {
            int side = Math.abs(row - other.row) + Math.abs(tier - other.tier);
            for (int mine = bay; mine <= lastBay(); mine++) {
                for (int theirs = other.bay; theirs <= other.lastBay(); theirs++) {
                    if (side + Math.abs(mine - theirs) == 1) {
                        return true;
                    }
                }
            }
            return false;
        }
    }

    /** Boxes put one behind the other onto stacks of one bay, and the overstows that they make. */
    private static final class Way {
        private final Box[] boxes = new Box[FILL_BOXES];
        private final int[] rows = new int[FILL_BOXES];
        int length;
        int overstows;

        void clear() {
            length = 0;
            overstows = 0;
        }

        void add(Box box, int row, int made) {
            if (length < 0 || length >= FILL_BOXES) {
                return;
            }
            boxes[length] = box;
            rows[length] = row;
            length++;
            overstows += made;
        }

        void dropLast(int made) {
            if (length <= 0) {
                return;
            }
            length--;
            overstows -= made;
        }

        Box boxOfStep(int step) {
            return step >= 0 && step < length ? boxes[step] : null;
        }

        int rowOfStep(int step) {
            return step >= 0 && step < length ? rows[step] : NONE;
        }

        boolean isBetterThan(Way other) {
            return length > other.length || length == other.length && overstows < other.overstows;
        }

        void become(Way other) {
            for (int step = 0; step < other.length && step < FILL_BOXES; step++) {
                boxes[step] = other.boxes[step];
                rows[step] = other.rows[step];
            }
            length = other.length;
            overstows = other.overstows;
        }
    }
}
