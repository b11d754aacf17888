/** Promises 18 to 23: way, ifPut, bestDrawer, ifPicked, evenness, digest. */
public final class WouldBe {
    private WouldBe() {
    }

    private static void way() {
        DrawerRing x = new DrawerRing();
        int[] due = {0, 1, 2, 3, 4, 5, 6, -5, -4, -3, -2, -1};
        for (int from = 0; from < 12; from++) {
            x.turn(from);
            for (int s = 0; s < 12; s++) {
                Due.is("18: way from " + from + " by " + s, x.way((from + s) % 12), due[s]);
            }
        }
        Due.noIndex("18: drawer 12", x, () -> x.way(12));
        Due.noIndex("18: drawer -1", x, () -> x.way(-1));
    }

    /** Loads of 10 in the drawers 2 and 4: the imbalance by the window is 20 20 10 0 10 20 20 20 10 0 10 20. */
    private static void wayInBalance() {
        DrawerRing x = new DrawerRing();
        x.put(2, 10);
        x.put(4, 10);
        x.turn(3);
        int[] imbalances = {20, 20, 10, 0, 10, 20};
        for (int d = 0; d < 12; d++) {
            Due.is("18: imbalance by " + d, x.drawer(d, 4), imbalances[d % 6]);
        }
        x.set(0, 10);
        int[] near = {99, 99, -1, 0, 1, 99, 99, 99, 99, 99, 99, 99};
        for (int d = 0; d < 12; d++) {
            Due.is("18: way to " + d, x.way(d), near[d]);
        }
        x.set(0, 0);
        for (int d = 0; d < 12; d++) {
            Due.is("18: no step is open, to " + d, x.way(d), d == 3 ? 0 : 99);
        }
        x.set(0, 20);
        Due.is("18: all are open at the limit", x.way(9), 6);
    }

    private static void ifPut() {
        DrawerRing x = new DrawerRing();
        Due.is("19: the first item", x.ifPut(4, 20), 20);
        x.put(0, 20);
        x.put(0, 20);
        x.put(0, 10);
        Due.is("19: beside it", x.ifPut(1, 7), 57);
        Due.is("19: across from it", x.ifPut(6, 7), 43);
        Due.is("19: also above the greatest load", x.ifPut(0, 20), 70);
        x.jam(6, true);
        x.set(0, 0);
        Due.is("19: also if it could not be put there", x.ifPut(6, 20), 30);
        Due.is("19: nothing is changed", x.count(1) * 100 + x.count(10), 305);
        Due.noIndex("19: drawer 12", x, () -> x.ifPut(12, 1));
        Due.noIndex("19: drawer -1", x, () -> x.ifPut(-1, 1));
        Due.noIndex("19: the index is ahead of the argument", x, () -> x.ifPut(12, 0));
        Due.noArgument("19: weight 0", x, () -> x.ifPut(0, 0));
        Due.noArgument("19: weight 21", x, () -> x.ifPut(0, 21));
    }

    private static void bestDrawer() {
        DrawerRing x = new DrawerRing();
        Due.is("20: of all the lowest", x.bestDrawer(20), 0);
        x.jam(0, true);
        Due.is("20: not a jammed one", x.bestDrawer(20), 1);
        x.put(3, 10);
        Due.is("20: across from the load", x.bestDrawer(10), 9);
        x.put(9, 10);
        x.set(1, 10);
        Due.is("20: not above setting 1", x.bestDrawer(1), 1);
        x.set(0, 0);
        Due.is("20: whatever the imbalance is", x.bestDrawer(1), 1);
        for (int d = 0; d < 12; d++) {
            x.jam(d, true);
        }
        Due.is("20: none is free", x.bestDrawer(1), -1);
        Due.noArgument("20: weight 0", x, () -> x.bestDrawer(0));
        Due.noArgument("20: weight 21", x, () -> x.bestDrawer(21));
    }

    private static void bestByLoad() {
        DrawerRing x = new DrawerRing();
        x.put(0, 10);
        x.put(6, 10);
        // Each drawer with 1 more makes 1 at worst; 0 and 6 have the greater loads.
        Due.is("20: of as good ones the one with the least load", x.bestDrawer(1), 1);
        x.put(1, 2);
        x.put(7, 2);
        Due.is("20: again", x.bestDrawer(1), 2);
        DrawerRing full = new DrawerRing();
        full.set(1, 10);
        full.set(0, 300);
        for (int d = 0; d < 12; d++) {
            full.put(d, d == 8 ? 9 : 10);
        }
        Due.is("20: the only one with space", full.bestDrawer(1), 8);
        Due.is("20: none has space", full.bestDrawer(2), -1);
    }

    private static void outcome(DrawerRing x, String what, int rule, int... due) {
        for (int k = 0; k < 4; k++) {
            Due.is(what + ": ifPicked(" + rule + ", " + k + ")", x.ifPicked(rule, k), due[k]);
        }
    }

    private static void ifPicked() {
        DrawerRing x = new DrawerRing();
        x.put(10, 1);
        x.put(3, 2);
        x.put(5, 3);
        x.put(1, 4);
        x.turn(11);
        x.turn(0);
        outcome(x, "21: an empty buffer", 0, -1, -1, -1, -1);
        Due.type(x, "1,0,2,");
        outcome(x, "21: an incomplete batch", 1, -1, -1, -1, -1);
        Due.type(x, "3");
        outcome(x, "21: as told", 0, 4, 17, 1, 0);
        outcome(x, "21: the nearest", 1, 4, 10, 10, 0);
        outcome(x, "21: the fewest steps", 2, 4, 9, 5, 0);
        x.set(2, 2);
        outcome(x, "21: by the rule of the call", 0, 4, 17, 1, 0);
        Due.is("21: nothing is changed", x.count(1) * 100 + x.count(5), 402);
        Due.noArgument("21: rule 3", x, () -> x.ifPicked(3, 0));
        Due.noArgument("21: rule -1", x, () -> x.ifPicked(-1, 0));
        Due.noArgument("21: what is 4", x, () -> x.ifPicked(0, 4));
        Due.noArgument("21: what is -1", x, () -> x.ifPicked(0, -1));
        Due.retype(x, "1,1");
        Due.noArgument("21: rule 3, and no batch", x, () -> x.ifPicked(3, 0));
        outcome(x, "21: a number that is told already", 2, -1, -1, -1, -1);
        Due.retype(x, "2,9,0");
        outcome(x, "21: ends at the first that is refused", 0, 1, 5, 5, 6);
        outcome(x, "21: passes over what is refused", 1, 2, 7, 5, 6);
        outcome(x, "21: without an order as told", 2, 1, 5, 5, 6);
        x.jam(5, true);
        outcome(x, "21: jammed, as told", 0, 0, 0, 0, 8);
        outcome(x, "21: jammed, the nearest", 1, 1, 2, 10, 9);
        outcome(x, "21: jammed, no order", 2, 0, 0, 0, 8);
    }

    /** Of as good ones, the one that is told first; and the first of the orders with as few steps. */
    private static void ifPickedByTies() {
        DrawerRing x = new DrawerRing();
        x.put(2, 1);
        x.put(10, 1);
        Due.type(x, "1,0");
        outcome(x, "21: 10 is told first", 1, 2, 6, 2, 0);
        outcome(x, "21: 10 is told first", 2, 2, 6, 2, 0);
        Due.retype(x, "0,1");
        outcome(x, "21: 2 is told first", 1, 2, 6, 10, 0);
        outcome(x, "21: 2 is told first", 2, 2, 6, 10, 0);
        x.put(0, 1);
        Due.retype(x, "1,0,2");
        outcome(x, "21: the one at the window comes first", 1, 3, 6, 2, 0);
        Due.retype(x, "0,1,2");
        outcome(x, "21: by the fewest steps it may come between", 2, 3, 6, 10, 0);
    }

    /**
     * The imbalance by the window, 0 to 5, is 15 25 25 25 5 10; without the item 2 it is 15 15 15 15 5 20,
     * without the item 1 it is 5 5 5 5 5 10.
     */
    private static void ifPickedInBalance() {
        DrawerRing x = new DrawerRing();
        x.put(5, 5);
        x.put(10, 20);
        x.put(0, 10);
        x.set(0, 15);
        Due.type(x, "0,1,2");
        outcome(x, "21: the turn to 5 is refused", 0, 0, 0, 0, 25);
        outcome(x, "21: behind the item at the window each turn is refused", 1, 1, 0, 0, 20);
        outcome(x, "21: the heaviest one must come first", 2, 3, 9, 5, 0);
        x.set(0, 9);
        outcome(x, "21: no order", 2, 0, 0, 0, 25);
        x.set(0, 15);
        x.set(2, 2);
        Due.is("11: the heaviest one comes first", x.pickAll(), 3);
        Due.is("11: two steps down, seven up", x.count(5) * 10 + x.count(6), 92);
    }

    private static void evenness() {
        DrawerRing x = new DrawerRing();
        Due.is("22: an empty ring", x.evenness(), 1.0);
        x.put(0, 3);
        Due.is("22: a drawer is empty", x.evenness(), 0.0);
        for (int d = 1; d < 12; d++) {
            x.put(d, 7);
        }
        Due.is("22: least by greatest", x.evenness(), 3.0 / 7.0);
        x.put(0, 4);
        Due.is("22: all are even", x.evenness(), 1.0);
    }

    /** Each share that can come about, so that each of their bits is seen. */
    private static void digestOfShares() {
        for (int least = 1; least <= 20; least++) {
            for (int greatest = least; greatest <= 20; greatest++) {
                DrawerRing x = new DrawerRing();
                Model m = new Model();
                x.set(0, 300);
                m.set(0, 300);
                for (int d = 0; d < 12; d++) {
                    x.put(d, d == 5 ? least : greatest);
                    m.put(d, d == 5 ? least : greatest);
                }
                Due.is("23: digest with the share " + least + " by " + greatest, x.digest(), m.digest());
            }
        }
    }

    private static long chained(long hash, long... values) {
        for (long v : values) {
            hash = 31 * hash + v;
        }
        return hash;
    }

    /** The digest of a new object, written out. */
    private static void digest() {
        DrawerRing x = new DrawerRing();
        long hash = chained(2963, 0, 0, 0, 0, 0, 0, 0, 0, 0, 0, 0, 60, 50, 0);
        int[] ways = {0, 1, 2, 3, 4, 5, 6, -5, -4, -3, -2, -1};
        for (int d = 0; d < 12; d++) {
            hash = chained(hash, 0, 0, d, 0, 0, 50, ways[d], 5);
        }
        long noBatch = chained(hash, 0, -1, -1, -1, -1, -1, -1, -1, -1, -1, -1, -1, -1, 0x3FF0000000000000L);
        Due.is("23: a new object", x.digest(), chained(noBatch, 0));
        Due.type(x, "9,");
        Due.is("23: with a text", x.digest(), chained(noBatch, 2, '9', ','));
        Due.is("23: nothing is changed", x.digest(), chained(noBatch, 2, '9', ','));
        Due.retype(x, "9");
        long batch = chained(hash, 0, 0, 0, 0, 0, 0, 0, 0, 0, 0, 0, 0, 0, 0x3FF0000000000000L);
        Due.is("23: with a batch", x.digest(), chained(batch, 1, '9'));
    }

    private static void digestWithItems() {
        DrawerRing x = new DrawerRing();
        Model m = new Model();
        for (int k = 0; k < 8; k++) {
            x.put(k * 5 % 12, 3 + k);
            m.put(k * 5 % 12, 3 + k);
        }
        x.pick(2);
        m.pick(2);
        x.jam(5, true);
        m.jam(5, true);
        Due.is("23: with items", x.digest(), m.digest());
        Due.type(x, "7,1,0,4");
        for (char c : "7,1,0,4".toCharArray()) {
            m.append(c);
        }
        Due.is("23: with items and a batch", x.digest(), m.digest());
    }

    public static void main(String[] args) {
        way();
        wayInBalance();
        ifPut();
        bestDrawer();
        bestByLoad();
        ifPicked();
        ifPickedByTies();
        ifPickedInBalance();
        evenness();
        digest();
        digestOfShares();
        digestWithItems();
        Due.end();
    }
}
