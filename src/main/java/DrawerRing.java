/**
 * A paternoster of drawers that turns the shorter way and must be kept in balance.
 * What each call does is told in ../shared/DOC.md.
 */
public final class DrawerRing {
    /** There is nothing to return. */
    public static final int NONE = -1;

    private static final int DRAWERS = 12;
    private static final int HALF = 6;
    private static final int MOST_ITEMS = 40;
    private static final int MOST_NUMBERS = 1000;
    private static final int MOST_WEIGHT = 20;
    private static final int MOST_SIGNS = 60;
    private static final int MOST_TOLD = 6;
    private static final int MOST_DIGITS = 3;
    private static final int MOST_SAVED = 6;

    private static final int SETTINGS = 3;
    private static final int IMBALANCE_LIMIT = 0;
    private static final int LOAD_LIMIT = 1;
    private static final int BATCH_RULE = 2;
    private static final int[] LEAST_VALUES = {0, 10, 0};
    private static final int[] GREATEST_VALUES = {300, 100, 2};
    private static final int[] FIRST_VALUES = {60, 50, 0};

    private static final int AS_TOLD = 0;
    private static final int NEAREST = 1;
    private static final int FEWEST_STEPS = 2;

    private static final int NO_WAY = 99;
    private static final int NO_ORDER = 1000000;
    private static final int NO_SUCH_ITEM = 1;
    private static final int JAMMED = 2;
    private static final int TURN_REFUSED = 3;

    private static final int DRAWER_PROPERTIES = 6;
    private static final int ITEM_PROPERTIES = 2;
    private static final int COUNTS = 11;
    private static final int OUTCOMES = 4;

    private final State now = new State();
    private final State trial = new State();
    private final History history = new History();
    private final BatchText text = new BatchText();
    private final Picker picker = new Picker();

    public DrawerRing() {
        // The fields are made empty already.
    }

    // ---- items

    public int put(int drawer, int weight)
            throws IndexOutOfBoundsException, IllegalArgumentException, IllegalStateException {
        if (!isDrawer(drawer)) {
            throw new IndexOutOfBoundsException("there is no such drawer");
        }
        if (!isWeight(weight)) {
            throw new IllegalArgumentException("the weight is out of range");
        }
        if (!now.mayAdd(drawer, weight)) {
            throw new IllegalStateException("the item cannot be put there");
        }
        history.keep(now);
        return now.addItem(drawer, weight);
    }

    public int move(int item, int drawer) throws IndexOutOfBoundsException, IllegalStateException {
        if (!now.items.has(item)) {
            throw new IndexOutOfBoundsException("there is no such item");
        }
        if (!isDrawer(drawer)) {
            throw new IndexOutOfBoundsException("there is no such drawer");
        }
        if (!now.mayRelocate(item, drawer)) {
            throw new IllegalStateException("the item cannot be moved there");
        }
        history.keep(now);
        return now.relocateItem(item, drawer);
    }

    public int pick(int item) throws IndexOutOfBoundsException, IllegalStateException {
        if (!now.items.has(item)) {
            throw new IndexOutOfBoundsException("there is no such item");
        }
        if (now.reasonAgainst(item) != 0) {
            throw new IllegalStateException("picking the item is refused");
        }
        history.keep(now);
        return now.takeItem(item);
    }

    // ---- the ring

    public int turn(int drawer) throws IndexOutOfBoundsException, IllegalStateException {
        if (!isDrawer(drawer)) {
            throw new IndexOutOfBoundsException("there is no such drawer");
        }
        int way = now.wayTo(drawer);
        if (way == NO_WAY) {
            throw new IllegalStateException("the turn is refused");
        }
        history.keep(now);
        now.goTo(drawer, way);
        return way;
    }

    public int jam(int drawer, boolean isJammed) throws IndexOutOfBoundsException {
        if (!isDrawer(drawer)) {
            throw new IndexOutOfBoundsException("there is no such drawer");
        }
        history.keep(now);
        int previous = at(now.jams, drawer);
        write(now.jams, drawer, isJammed ? 1 : 0);
        return previous;
    }

    public int set(int setting, int value)
            throws IndexOutOfBoundsException, IllegalArgumentException, IllegalStateException {
        if (!isSetting(setting)) {
            throw new IndexOutOfBoundsException("there is no such setting");
        }
        if (value < at(LEAST_VALUES, setting) || value > at(GREATEST_VALUES, setting)) {
            throw new IllegalArgumentException("the value is out of range");
        }
        if (setting == LOAD_LIMIT && now.balance.greatestLoad() > value) {
            throw new IllegalStateException("a drawer has a greater load");
        }
        history.keep(now);
        int previous = at(now.settings, setting);
        write(now.settings, setting, value);
        return previous;
    }

    // ---- texts

    public int append(int code) throws IllegalArgumentException, IllegalStateException {
        if (code < 33 || code > 126) {
            throw new IllegalArgumentException("the code is not 33 to 126");
        }
        if (text.length >= MOST_SIGNS) {
            throw new IllegalStateException("the buffer is full");
        }
        text.addSign(code);
        return text.length;
    }

    public int clearBuffer() {
        int previous = text.length;
        text.length = 0;
        return previous;
    }

    public int firstError() {
        return text.readSigns();
    }

    public int pickAll() throws IllegalArgumentException {
        if (!text.readBatch()) {
            throw new IllegalArgumentException("the buffer is not a complete batch");
        }
        history.keep(now);
        int picked = picker.pickBatch(now, text.told, text.toldCount, at(now.settings, BATCH_RULE));
        text.length = 0;
        return picked;
    }

    public int undo() throws IllegalStateException {
        if (history.size == 0) {
            throw new IllegalStateException("no state is saved");
        }
        history.restoreTo(now);
        return history.size;
    }

    // ---- looks; nothing is changed

    public int drawer(int drawer, int what) throws IndexOutOfBoundsException, IllegalArgumentException {
        if (!isDrawer(drawer)) {
            throw new IndexOutOfBoundsException("there is no such drawer");
        }
        if (what < 0 || what >= DRAWER_PROPERTIES) {
            throw new IllegalArgumentException("what is not 0 to 5");
        }
        return now.drawerProperty(drawer, what);
    }

    public int item(int item, int what) throws IndexOutOfBoundsException, IllegalArgumentException {
        if (item < 0 || item >= now.items.given) {
            throw new IndexOutOfBoundsException("this number was not given so far");
        }
        if (what < 0 || what >= ITEM_PROPERTIES) {
            throw new IllegalArgumentException("what is not 0 or 1");
        }
        return now.items.propertyOf(item, what);
    }

    public int count(int what) throws IllegalArgumentException {
        if (what < 0 || what >= COUNTS) {
            throw new IllegalArgumentException("what is not 0 to 10");
        }
        return numberOf(what);
    }

    public int setting(int setting) throws IndexOutOfBoundsException {
        if (!isSetting(setting)) {
            throw new IndexOutOfBoundsException("there is no such setting");
        }
        return at(now.settings, setting);
    }

    public int refusal(int item) {
        return now.reasonAgainst(item);
    }

    // ---- what would be; nothing is changed

    public int way(int drawer) throws IndexOutOfBoundsException {
        if (!isDrawer(drawer)) {
            throw new IndexOutOfBoundsException("there is no such drawer");
        }
        return now.wayTo(drawer);
    }

    public int ifPut(int drawer, int weight) throws IndexOutOfBoundsException, IllegalArgumentException {
        if (!isDrawer(drawer)) {
            throw new IndexOutOfBoundsException("there is no such drawer");
        }
        if (!isWeight(weight)) {
            throw new IllegalArgumentException("the weight is out of range");
        }
        return now.balance.greatestWith(drawer, weight);
    }

    public int bestDrawer(int weight) throws IllegalArgumentException {
        if (!isWeight(weight)) {
            throw new IllegalArgumentException("the weight is out of range");
        }
        return now.bestFor(weight);
    }

    public int ifPicked(int rule, int what) throws IllegalArgumentException {
        if (rule < AS_TOLD || rule > FEWEST_STEPS) {
            throw new IllegalArgumentException("there is no such rule");
        }
        if (what < 0 || what >= OUTCOMES) {
            throw new IllegalArgumentException("what is not 0 to 3");
        }
        return outcomeOf(tryBatch(rule), what);
    }

    public double evenness() {
        return shareOfLeast();
    }

    public long digest() {
        long hash = hashNumbers(2963L);
        hash = hashDrawers(hash);
        hash = hashItems(hash);
        hash = chained(hash, now.bestFor(7));
        for (int rule = AS_TOLD; rule <= FEWEST_STEPS; rule++) {
            int picked = tryBatch(rule);
            for (int what = 0; what < OUTCOMES; what++) {
                hash = chained(hash, outcomeOf(picked, what));
            }
        }
        hash = chained(hash, bitsOf(shareOfLeast()));
        return hashText(hash);
    }

    // ---- what the face is made of

    private int numberOf(int what) {
        switch (what) {
            case 0: return now.window;
            case 1: return now.items.size;
            case 2: return now.balance.wholeLoad();
            case 3: return now.balance.imbalanceAt(now.window);
            case 4: return now.balance.greatestWith(0, 0);
            case 5: return now.steps;
            case 6: return now.stepsDown;
            case 7: return now.longTurns;
            case 8: return now.picked;
            case 9: return now.jammedDrawers();
            default: return history.size;
        }
    }

    private double shareOfLeast() {
        int greatest = now.balance.greatestLoad();
        if (greatest <= 0) {
            return 1.0;
        }
        return (double) now.balance.leastLoad() / (double) greatest;
    }

    /** Picks the batch of the buffer in the trial state; NONE if there is no complete batch. */
    private int tryBatch(int rule) {
        if (!text.readBatch()) {
            return NONE;
        }
        trial.copyFrom(now);
        return picker.pickBatch(trial, text.told, text.toldCount, rule);
    }

    /** What the batch tried last has brought; NONE if it was none. */
    private int outcomeOf(int picked, int what) {
        if (picked == NONE) {
            return NONE;
        }
        switch (what) {
            case 0: return picked;
            case 1: return trial.steps - now.steps;
            case 2: return trial.window;
            default: return trial.balance.greatestWith(0, 0);
        }
    }

    private long hashNumbers(long start) {
        long hash = start;
        for (int what = 0; what < COUNTS; what++) {
            hash = chained(hash, numberOf(what));
        }
        for (int setting = 0; setting < SETTINGS; setting++) {
            hash = chained(hash, at(now.settings, setting));
        }
        return hash;
    }

    private long hashDrawers(long start) {
        long hash = start;
        for (int drawer = 0; drawer < DRAWERS; drawer++) {
            for (int what = 0; what < DRAWER_PROPERTIES; what++) {
                hash = chained(hash, now.drawerProperty(drawer, what));
            }
            hash = chained(hash, now.wayTo(drawer));
            hash = chained(hash, now.balance.greatestWith(drawer, 5));
        }
        return hash;
    }

    private long hashItems(long start) {
        long hash = start;
        for (int slot = 0; slot < now.items.size; slot++) {
            int item = at(now.items.numbers, slot);
            hash = chained(hash, item);
            for (int what = 0; what < ITEM_PROPERTIES; what++) {
                hash = chained(hash, now.items.propertyOf(item, what));
            }
            hash = chained(hash, now.reasonAgainst(item));
        }
        return hash;
    }

    private long hashText(long start) {
        long hash = chained(start, text.length);
        for (int index = 0; index < text.length; index++) {
            hash = chained(hash, at(text.signs, index));
        }
        return hash;
    }

    private static long chained(long hash, long value) {
        return 31L * hash + value;
    }

    /** The bits of a share, 0 to 1, by arithmetic: the language leaves out the library's call for it. */
    private static long bitsOf(double share) {
        if (share <= 0.0) {
            return 0L;
        }
        double mantissa = share;
        int doublings = 0;
        while (mantissa < 1.0 && doublings < 1022) {
            mantissa = mantissa * 2.0;
            doublings++;
        }
        long fraction = (long) ((mantissa - 1.0) * 4503599627370496.0);
        return ((long) (1023 - doublings) << 52) + fraction;
    }

    private static boolean isDrawer(int drawer) {
        return drawer >= 0 && drawer < DRAWERS;
    }

    private static boolean isWeight(int weight) {
        return weight >= 1 && weight <= MOST_WEIGHT;
    }

    private static boolean isSetting(int setting) {
        return setting >= 0 && setting < SETTINGS;
    }

    /** The place of a drawer with another one, or itself, at the window. */
    private static int placeOf(int drawer, int window) {
        return (drawer - window + DRAWERS) % DRAWERS;
    }

    /** Sets of small numbers are held as the bits of an int. */
    private static boolean isIn(int set, int member) {
        return (set >> member & 1) == 1;
    }

    /**
     * The steps up, or, below 0, the steps down; NO_WAY if neither way is open.
     * A way is open if each drawer that comes to the window on it is in the set of the balanced ones.
     */
    private static int wayOver(int balanced, int from, int to) {
        int up = placeOf(to, from);
        if (up == 0) {
            return 0;
        }
        int byPlaces = balanced >> from | balanced << (DRAWERS - from);
        int placesUp = (2 << up) - 2;
        int placesDown = (1 << DRAWERS) - (1 << up);
        boolean isUpOpen = (byPlaces & placesUp) == placesUp;
        boolean isDownOpen = (byPlaces & placesDown) == placesDown;
        if (isUpOpen && (up <= HALF || !isDownOpen)) {
            return up;
        }
        return isDownOpen ? up - DRAWERS : NO_WAY;
    }

    // No index is used untested: rows are read and written by these, but in a loop that tests it itself.

    private static int at(int[] row, int index) {
        return index >= 0 && index < row.length ? row[index] : 0;
    }

    private static void write(int[] row, int index, int value) {
        if (index >= 0 && index < row.length) {
            row[index] = value;
        }
    }

    private static void copyRow(int[] from, int[] to) {
        System.arraycopy(from, 0, to, 0, Math.min(from.length, to.length));
    }

    /** The loads of the drawers, and how they weigh on the chain. */
    private static final class Balance {
        final int[] loads = new int[DRAWERS];
        /** By the drawer at the window: the load on the right side less that on the left side. */
        final int[] tilts = new int[DRAWERS];

        void copyFrom(Balance other) {
            copyRow(other.loads, loads);
            copyRow(other.tilts, tilts);
        }

        void addLoad(int drawer, int weight) {
            write(loads, drawer, at(loads, drawer) + weight);
            for (int window = 0; window < DRAWERS; window++) {
                write(tilts, window, at(tilts, window) + weight * sideOf(drawer, window));
            }
        }

        /** 1 on the right side, -1 on the left side, 0 at the window and at the top. */
        static int sideOf(int drawer, int window) {
            int place = placeOf(drawer, window);
            if (place == 0 || place == HALF) {
                return 0;
            }
            return place < HALF ? 1 : -1;
        }

        int imbalanceAt(int window) {
            return Math.abs(at(tilts, window));
        }

        int imbalanceWith(int window, int drawer, int weight) {
            return Math.abs(at(tilts, window) + weight * sideOf(drawer, window));
        }

        int imbalanceMoved(int window, int from, int to, int weight) {
            int change = weight * (sideOf(to, window) - sideOf(from, window));
            return Math.abs(at(tilts, window) + change);
        }

        /** The greatest imbalance of all drawers at the window, with a weight more in a drawer. */
        int greatestWith(int drawer, int weight) {
            int greatest = 0;
            for (int window = 0; window < DRAWERS; window++) {
                greatest = Math.max(greatest, imbalanceWith(window, drawer, weight));
            }
            return greatest;
        }

        /** The set of the drawers with which at the window the imbalance is at most the limit. */
        int balancedSet(int limit) {
            int set = 0;
            for (int window = 0; window < tilts.length; window++) {
                if (tilts[window] <= limit && -tilts[window] <= limit) {
                    set |= 1 << window;
                }
            }
            return set;
        }

        int wholeLoad() {
            int whole = 0;
            for (int load : loads) {
                whole += load;
            }
            return whole;
        }

        int greatestLoad() {
            int greatest = 0;
            for (int load : loads) {
                greatest = Math.max(greatest, load);
            }
            return greatest;
        }

        int leastLoad() {
            int least = at(loads, 0);
            for (int load : loads) {
                least = Math.min(least, load);
            }
            return least;
        }
    }

    /** The items that there are, by numbers. */
    private static final class Items {
        final int[] numbers = new int[MOST_ITEMS];
        final int[] weights = new int[MOST_ITEMS];
        final int[] drawers = new int[MOST_ITEMS];
        int size;
        /** How many numbers are given. */
        int given;

        void copyFrom(Items other) {
            copyRow(other.numbers, numbers);
            copyRow(other.weights, weights);
            copyRow(other.drawers, drawers);
            size = other.size;
            given = other.given;
        }

        boolean has(int item) {
            return slotOf(item) != NONE;
        }

        int slotOf(int item) {
            for (int slot = 0; slot < size && slot < numbers.length; slot++) {
                if (numbers[slot] == item) {
                    return slot;
                }
            }
            return NONE;
        }

        int weightOf(int item) {
            return at(weights, slotOf(item));
        }

        int drawerOf(int item) {
            return at(drawers, slotOf(item));
        }

        /** 0: its weight; 1: its drawer; NONE if it is gone. */
        int propertyOf(int item, int what) {
            if (!has(item)) {
                return NONE;
            }
            return what == 0 ? weightOf(item) : drawerOf(item);
        }

        int lieIn(int drawer) {
            int lying = 0;
            for (int slot = 0; slot < size; slot++) {
                if (at(drawers, slot) == drawer) {
                    lying++;
                }
            }
            return lying;
        }

        int add(int drawer, int weight) {
            int item = given;
            write(numbers, size, item);
            write(weights, size, weight);
            write(drawers, size, drawer);
            size++;
            given++;
            return item;
        }

        void remove(int item) {
            int slot = slotOf(item);
            if (slot == NONE) {
                return;
            }
            size--;
            for (int k = slot; k < size; k++) {
                write(numbers, k, at(numbers, k + 1));
                write(weights, k, at(weights, k + 1));
                write(drawers, k, at(drawers, k + 1));
            }
        }
    }

    /** All that undo brings back. */
    private static final class State {
        final Balance balance = new Balance();
        final Items items = new Items();
        final int[] jams = new int[DRAWERS];
        final int[] settings = FIRST_VALUES.clone();
        int window;
        int steps;
        int stepsDown;
        int longTurns;
        int picked;

        void copyFrom(State other) {
            balance.copyFrom(other.balance);
            items.copyFrom(other.items);
            copyRow(other.jams, jams);
            copyRow(other.settings, settings);
            window = other.window;
            steps = other.steps;
            stepsDown = other.stepsDown;
            longTurns = other.longTurns;
            picked = other.picked;
        }

        boolean isJammed(int drawer) {
            return at(jams, drawer) == 1;
        }

        int jammedDrawers() {
            int jammed = 0;
            for (int value : jams) {
                jammed += value;
            }
            return jammed;
        }

        /** What the load of a drawer can still grow by. */
        int spaceIn(int drawer) {
            return at(settings, LOAD_LIMIT) - at(balance.loads, drawer);
        }

        int drawerProperty(int drawer, int what) {
            switch (what) {
                case 0: return at(balance.loads, drawer);
                case 1: return items.lieIn(drawer);
                case 2: return placeOf(drawer, window);
                case 3: return at(jams, drawer);
                case 4: return balance.imbalanceAt(drawer);
                default: return spaceIn(drawer);
            }
        }

        boolean mayAdd(int drawer, int weight) {
            return items.size < MOST_ITEMS
                    && items.given < MOST_NUMBERS
                    && weight <= spaceIn(drawer)
                    && balance.imbalanceWith(window, drawer, weight) <= at(settings, IMBALANCE_LIMIT);
        }

        int addItem(int drawer, int weight) {
            balance.addLoad(drawer, weight);
            return items.add(drawer, weight);
        }

        boolean mayRelocate(int item, int drawer) {
            int from = items.drawerOf(item);
            int weight = items.weightOf(item);
            int more = from == drawer ? 0 : weight;
            return !isJammed(from)
                    && !isJammed(drawer)
                    && more <= spaceIn(drawer)
                    && balance.imbalanceMoved(window, from, drawer, weight) <= at(settings, IMBALANCE_LIMIT);
        }

        /** Returns the drawer in which the item was. */
        int relocateItem(int item, int drawer) {
            int from = items.drawerOf(item);
            int weight = items.weightOf(item);
            balance.addLoad(from, -weight);
            balance.addLoad(drawer, weight);
            write(items.drawers, items.slotOf(item), drawer);
            return from;
        }

        int wayTo(int drawer) {
            int limit = at(settings, IMBALANCE_LIMIT);
            return wayOver(balance.balancedSet(limit), window, drawer);
        }

        /** Turns to a drawer by a way that is open. */
        void goTo(int drawer, int way) {
            window = drawer;
            steps += Math.abs(way);
            stepsDown += Math.max(0, -way);
            if (way > HALF || way <= -HALF) {
                longTurns++;
            }
        }

        int reasonAgainst(int item) {
            if (!items.has(item)) {
                return NO_SUCH_ITEM;
            }
            int drawer = items.drawerOf(item);
            if (isJammed(drawer)) {
                return JAMMED;
            }
            return wayTo(drawer) == NO_WAY ? TURN_REFUSED : 0;
        }

        /** Picks an item against which there is no reason, and returns the steps that are gone. */
        int takeItem(int item) {
            int drawer = items.drawerOf(item);
            int way = wayTo(drawer);
            goTo(drawer, way);
            balance.addLoad(drawer, -items.weightOf(item));
            items.remove(item);
            picked++;
            return Math.abs(way);
        }

        int bestFor(int weight) {
            int best = NONE;
            for (int drawer = 0; drawer < DRAWERS; drawer++) {
                if (isJammed(drawer) || weight > spaceIn(drawer)) {
                    continue;
                }
                if (best == NONE || isBetter(drawer, best, weight)) {
                    best = drawer;
                }
            }
            return best;
        }

        boolean isBetter(int drawer, int best, int weight) {
            int imbalance = balance.greatestWith(drawer, weight);
            int leastImbalance = balance.greatestWith(best, weight);
            if (imbalance != leastImbalance) {
                return imbalance < leastImbalance;
            }
            return at(balance.loads, drawer) < at(balance.loads, best);
        }
    }

    /** The saved states, in a ring of states that are made once. */
    private static final class History {
        private final State[] saved = new State[MOST_SAVED];
        private int oldest;
        int size;

        History() {
            for (int k = 0; k < saved.length; k++) {
                saved[k] = new State();
            }
        }

        void keep(State state) {
            if (size == MOST_SAVED) {
                oldest = (oldest + 1) % MOST_SAVED;
                size--;
            }
            State place = stateAt(size);
            if (place != null) {
                place.copyFrom(state);
            }
            size++;
        }

        /** Drops the latest state, of which there is one, after it is copied. */
        void restoreTo(State state) {
            size--;
            State latest = stateAt(size);
            if (latest != null) {
                state.copyFrom(latest);
            }
        }

        State stateAt(int age) {
            int index = (oldest + age) % MOST_SAVED;
            return index >= 0 && index < saved.length ? saved[index] : null;
        }
    }

    /** The buffer, and the batch that it tells. */
    private static final class BatchText {
        final int[] signs = new int[MOST_SIGNS];
        int length;
        /** The items of which the number is read to its end. */
        final int[] told = new int[MOST_TOLD];
        int toldCount;
        private int number;
        private int digits;

        void addSign(int code) {
            write(signs, length, code);
            length++;
        }

        /** Reads up to the first sign that is an error; returns its index, the length if there is none. */
        int readSigns() {
            toldCount = 0;
            number = 0;
            digits = 0;
            int index = 0;
            while (index < length && isTaken(at(signs, index))) {
                index++;
            }
            return index;
        }

        /** Reads the batch; false if it is not complete. */
        boolean readBatch() {
            return readSigns() == length && endNumber();
        }

        boolean isTaken(int sign) {
            if (sign == ',') {
                return toldCount < MOST_TOLD - 1 && endNumber();
            }
            return sign >= '0' && sign <= '9' && isDigitTaken(sign - '0');
        }

        /** A number that cannot go on must be one that is not told. */
        boolean isDigitTaken(int digit) {
            if (digits > 0 && !canGoOn()) {
                return false;
            }
            number = number * 10 + digit;
            digits++;
            return canGoOn() || !isTold(number);
        }

        boolean canGoOn() {
            return number != 0 && digits < MOST_DIGITS;
        }

        boolean endNumber() {
            if (digits == 0 || isTold(number)) {
                return false;
            }
            write(told, toldCount, number);
            toldCount++;
            number = 0;
            digits = 0;
            return true;
        }

        boolean isTold(int item) {
            for (int k = 0; k < toldCount && k < told.length; k++) {
                if (told[k] == item) {
                    return true;
                }
            }
            return false;
        }
    }

    /** Picks batches by the rules. */
    private static final class Picker {
        private final OrderSearch search = new OrderSearch();

        /** Returns how many items are picked. */
        int pickBatch(State state, int[] told, int toldCount, int rule) {
            if (rule == NEAREST) {
                return pickNearest(state, told, toldCount);
            }
            if (rule == FEWEST_STEPS && search.findOrder(state, told, toldCount)) {
                return pickInRow(state, search.order, toldCount);
            }
            return pickInRow(state, told, toldCount);
        }

        int pickInRow(State state, int[] row, int rowCount) {
            for (int k = 0; k < rowCount; k++) {
                int item = at(row, k);
                if (state.reasonAgainst(item) != 0) {
                    return k;
                }
                state.takeItem(item);
            }
            return rowCount;
        }

        int pickNearest(State state, int[] told, int toldCount) {
            for (int picked = 0; picked < toldCount; picked++) {
                int nearest = NONE;
                int fewest = NO_WAY;
                for (int k = 0; k < toldCount; k++) {
                    int steps = stepsTo(state, at(told, k));
                    if (steps < fewest) {
                        nearest = at(told, k);
                        fewest = steps;
                    }
                }
                if (nearest == NONE) {
                    return picked;
                }
                state.takeItem(nearest);
            }
            return toldCount;
        }

        /** NO_WAY if the item is refused, as one is that was picked already. */
        int stepsTo(State state, int item) {
            int slot = state.items.slotOf(item);
            int drawer = at(state.items.drawers, slot);
            if (slot == NONE || state.isJammed(drawer)) {
                return NO_WAY;
            }
            return Math.abs(state.wayTo(drawer));
        }
    }

    /**
     * Finds the order with the fewest steps. What is left to go depends on the set of items that
     * are picked and on the one picked last alone, so each such pair is looked at once.
     */
    private static final class OrderSearch {
        /** The items of the order that is found. */
        final int[] order = new int[MOST_TOLD];
        private final Balance left = new Balance();
        private final int[] drawers = new int[MOST_TOLD];
        private final int[] weights = new int[MOST_TOLD];
        private final int[] fewest = new int[(1 << MOST_TOLD) * MOST_TOLD];
        private final int[] next = new int[(1 << MOST_TOLD) * MOST_TOLD];
        private int count;
        /** The drawers that are balanced at the window without the items of the set looked at. */
        private int balanced;

        /** False if in each order an item is refused. */
        boolean findOrder(State state, int[] told, int toldCount) {
            count = toldCount;
            if (!readItems(state, told)) {
                return false;
            }
            for (int set = (1 << count) - 1; set > 0; set--) {
                takeOut(state, set);
                for (int last = 0; last < count; last++) {
                    if (isIn(set, last)) {
                        weighNext(set, last, at(drawers, last));
                    }
                }
            }
            takeOut(state, 0);
            weighNext(0, 0, state.window);
            if (at(fewest, 0) == NO_ORDER) {
                return false;
            }
            followOrder(told);
            return true;
        }

        /** False if an item is refused whatever the order is. */
        boolean readItems(State state, int[] told) {
            for (int k = 0; k < count; k++) {
                int slot = state.items.slotOf(at(told, k));
                int drawer = at(state.items.drawers, slot);
                if (slot == NONE || state.isJammed(drawer)) {
                    return false;
                }
                write(drawers, k, drawer);
                write(weights, k, at(state.items.weights, slot));
            }
            return true;
        }

        void takeOut(State state, int set) {
            left.copyFrom(state.balance);
            for (int k = 0; k < count; k++) {
                if (isIn(set, k)) {
                    left.addLoad(at(drawers, k), -at(weights, k));
                }
            }
            balanced = left.balancedSet(at(state.settings, IMBALANCE_LIMIT));
        }

        /** Of several next items that are as good, the first one is kept. */
        void weighNext(int set, int last, int window) {
            int best = set == (1 << count) - 1 ? 0 : NO_ORDER;
            int bestNext = 0;
            for (int k = 0; k < count; k++) {
                int steps = isIn(set, k) ? NO_ORDER : stepsBy(set, k, window);
                if (steps < best) {
                    best = steps;
                    bestNext = k;
                }
            }
            write(fewest, indexOf(set, last), best);
            write(next, indexOf(set, last), bestNext);
        }

        /** The steps for all that is left if the item k comes next; at least NO_ORDER if that is refused. */
        int stepsBy(int set, int k, int window) {
            int way = wayOver(balanced, window, at(drawers, k));
            if (way == NO_WAY) {
                return NO_ORDER;
            }
            return Math.abs(way) + at(fewest, indexOf(set | 1 << k, k));
        }

        void followOrder(int[] told) {
            int set = 0;
            int last = 0;
            for (int k = 0; k < count; k++) {
                last = at(next, indexOf(set, last));
                set |= 1 << last;
                write(order, k, at(told, last));
            }
        }

        static int indexOf(int set, int last) {
            return set * MOST_TOLD + last;
        }
    }
}
