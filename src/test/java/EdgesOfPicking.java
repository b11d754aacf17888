/** The edges of the head 'Picking': each sentence that names one, as it is quoted. */
public final class EdgesOfPicking {
    private EdgesOfPicking() {
    }

    /** "the ring turns to its drawer, and the item is taken away": in this order. */
    private static void turnsFirst() {
        DrawerRing x = new DrawerRing();
        x.put(3, 10);
        x.put(4, 10);
        x.set(0, 20);
        Due.is("at the limit with the item", x.refusal(1), 0);
        x.set(0, 19);
        Due.is("above it with the item, not without", x.refusal(1), 3);
        Due.noState("pick is refused", x, () -> x.pick(1));
        DrawerRing y = new DrawerRing();
        y.put(1, 10);
        y.set(0, 0);
        Due.is("above the limit where it stands, not behind the step", y.pick(0), 1);
        Due.is("the ring has turned", y.count(0), 1);
        Due.is("the item is gone", y.count(1), 0);
    }

    /** "for the first of these reasons that applies: 1: there is no such item" */
    private static void noSuchItem() {
        DrawerRing x = new DrawerRing();
        x.put(3, 10);
        x.put(3, 10);
        x.pick(1);
        x.turn(0);
        x.jam(3, true);
        x.set(0, 0);
        for (int none : new int[] {-12, -2, -1, 1, 2, 39, 40, 999, 1000}) {
            noSuchItem(x, none);
        }
        for (int none : Rings.FAR) {
            noSuchItem(x, none);
        }
        Due.is("the one that there is", x.refusal(0), 2);
    }

    private static void noSuchItem(DrawerRing x, int none) {
        Due.is("refusal of " + none, x.refusal(none), 1);
        Due.noIndex("pick " + none, x, () -> x.pick(none));
        Due.noIndex("move " + none, x, () -> x.move(none, 0));
    }

    /** "2: its drawer is jammed; 3: the turn is refused" */
    private static void reasons() {
        DrawerRing x = Rings.peaked(3, 10);
        int item = x.put(3, 1);
        int atTheWindow = x.put(0, 1);
        reason(x, "no reason", item, 0);
        // The imbalance there is 9, with 1 on the left side.
        x.set(0, 8);
        reason(x, "the turn", item, 3);
        reason(x, "no turn for what is at the window", atTheWindow, 0);
        x.jam(3, true);
        reason(x, "jammed, ahead of the turn", item, 2);
        x.set(0, 300);
        reason(x, "jammed, without the turn", item, 2);
        x.jam(0, true);
        reason(x, "jammed at the window", atTheWindow, 2);
        x.jam(3, false);
        reason(x, "another drawer is jammed", item, 0);
    }

    private static void reason(DrawerRing x, String what, int item, int due) {
        Due.is(what + ": refusal", x.refusal(item), due);
        if (due == 0) {
            x.pick(item);
            x.undo();
        } else {
            Due.noState(what + ": pick", x, () -> x.pick(item));
        }
    }

    /** "The shorter way" of a pick: seven steps up are five down, six go up. */
    private static void stepsOfPicks() {
        int[] due = {0, 1, 2, 3, 4, 5, 6, 5, 4, 3, 2, 1};
        for (int window = 0; window < 12; window++) {
            for (int s = 0; s < 12; s++) {
                DrawerRing x = new DrawerRing();
                x.turn(window);
                int down = x.count(6);
                int drawer = (window + s) % 12;
                x.put(drawer, 20);
                Due.is("pick from " + window + " at " + drawer, x.pick(0), due[s]);
                Due.is("steps down", x.count(6) - down, s <= 6 ? 0 : 12 - s);
            }
        }
    }

    /** A batch of one item, at each place, by each rule; and of six, the most. */
    private static void oneAndSix() {
        int[] steps = {0, 1, 2, 3, 4, 5, 6, 5, 4, 3, 2, 1};
        for (int rule = 0; rule <= 2; rule++) {
            for (int drawer = 0; drawer < 12; drawer++) {
                DrawerRing x = new DrawerRing();
                x.put(drawer, 4);
                Rings.brings("one item", x, "0", rule, 1, steps[drawer], drawer, 0);
                x.jam(drawer, true);
                Rings.brings("one item, jammed", x, "0", rule, 0, 0, 0, x.count(4));
            }
            Rings.brings("an item that is not given", new DrawerRing(), "999", rule, 0, 0, 0, 0);
        }
        DrawerRing x = new DrawerRing();
        for (int drawer : new int[] {6, 1, 11, 4, 9, 2}) {
            x.put(drawer, 1);
        }
        Rings.brings("six items, as told", x, "0,1,2,3,4,5", 0, 6, 6 + 5 + 2 + 5 + 5 + 5, 2, 0);
        // To 1, 2, 4, 6, 9, 11: each time the nearest one.
        Rings.brings("six items, the nearest", x, "0,1,2,3,4,5", 1, 6, 11, 11, 0);
        // The whole way up, the whole way down, and 11, 1, 2, 4, 6, 9 take 11 steps each.
        Rings.brings("six items, up", x, "0,1,2,3,4,5", 2, 6, 11, 11, 0);
        Rings.brings("six items, to 11, then up", x, "2,1,0,3,4,5", 2, 6, 11, 9, 0);
        Rings.brings("six items, down", x, "2,4,1,0,3,5", 2, 6, 11, 1, 0);
    }

    /** "Picking ends at the first item that is refused": the first one, one between, the last one. */
    private static void endsAsTold() {
        DrawerRing x = new DrawerRing();
        x.put(1, 1);
        x.put(2, 1);
        x.put(3, 1);
        Rings.brings("none is refused", x, "0,1,2", 0, 3, 3, 3, 0);
        Rings.brings("the first one is refused", x, "9,0,1,2", 0, 0, 0, 0, 3);
        Rings.brings("one between is refused", x, "0,9,1,2", 0, 1, 1, 1, 2);
        Rings.brings("the last one is refused", x, "0,1,2,9", 0, 3, 3, 3, 0);
        x.jam(2, true);
        Rings.brings("one between is jammed", x, "0,1,2", 0, 1, 1, 1, 2);
    }

    /** "1: always the one, of those left, that would take the fewest steps ... of several the one that is told first" */
    private static void nearest() {
        DrawerRing x = new DrawerRing();
        x.put(1, 1);
        x.put(11, 1);
        x.put(0, 1);
        x.put(6, 1);
        Rings.brings("one up ahead of one down", x, "0,1", 1, 2, 3, 11, 0);
        Rings.brings("one down ahead of one up", x, "1,0", 1, 2, 3, 1, 0);
        Rings.brings("no step ahead of one", x, "1,0,2", 1, 3, 3, 1, 1);
        // From 1 the top is five steps away, 11 two.
        Rings.brings("the top comes last", x, "3,0,1,2", 1, 4, 1 + 2 + 5, 6, 0);
        x.put(5, 1);
        x.put(7, 1);
        x.pick(3);
        Rings.brings("from the top, up first", x, "5,4", 1, 2, 3, 5, 3);
        Rings.brings("from the top, down first", x, "4,5", 1, 2, 3, 7, 3);
    }

    /** "those that would be refused are passed over as long as others are not" */
    private static void passedOver() {
        DrawerRing x = new DrawerRing();
        x.put(1, 1);
        x.put(2, 1);
        x.put(10, 1);
        x.jam(1, true);
        Rings.brings("a jammed one told first", x, "0,1,2", 1, 2, 2 + 4, 10, 1);
        Rings.brings("a jammed one told last", x, "2,1,0", 1, 2, 2 + 4, 2, 1);
        Rings.brings("one that is not there", x, "9,1", 1, 1, 2, 2, 2);
        Rings.brings("some that are not there", x, "9,1,10,0,2,11", 1, 2, 2 + 4, 10, 1);
        x.jam(2, true);
        x.jam(10, true);
        Rings.brings("all that are left would be refused", x, "0,1,2,9", 1, 0, 0, 0, 3);
    }

    /** The same: one that is refused at first is picked behind another one that is farther away. */
    private static void refusedAtFirst() {
        DrawerRing x = new DrawerRing();
        x.set(0, 300);
        // The left side is heavier by 10 with 1 at the window, and by 4 behind the pick of the item 4;
        // with another drawer there both are even but for 1, and 6 behind that pick.
        for (int drawer : new int[] {0, 3, 5, 8}) {
            x.put(drawer, 10);
        }
        x.put(10, 6);
        x.put(10, 4);
        x.put(1, 1);
        x.set(0, 7);
        Due.is("one step is refused", x.refusal(6), 3);
        Due.is("two steps are not", x.refusal(4), 0);
        Rings.brings("as told", x, "6,4", 0, 0, 0, 0, 10);
        Rings.brings("passed over, and picked then", x, "6,4", 1, 2, 2 + 3, 1, 6);
        Rings.brings("the only order", x, "6,4", 2, 2, 2 + 3, 1, 6);
        Rings.brings("told in this order", x, "4,6", 0, 2, 2 + 3, 1, 6);
        Rings.brings("told in the only order", x, "4,6", 2, 2, 2 + 3, 1, 6);
        Rings.brings("alone it stays refused", x, "6", 1, 0, 0, 0, 10);
        Rings.brings("alone there is no order", x, "6", 2, 0, 0, 0, 10);
    }

    /** "Picking ends ... (as 1: if all that are left would be refused)": also behind some. */
    private static void endsIfAllAreRefused() {
        DrawerRing x = new DrawerRing();
        x.put(0, 10);
        x.put(5, 5);
        x.put(10, 20);
        x.set(0, 15);
        // Behind the item 0 at the window each turn is refused: it weighed against the item 2.
        Rings.brings("all that are left", x, "1,2,0", 1, 1, 0, 0, 20);
        Rings.brings("all but the heaviest first", x, "1,2,0", 2, 3, 2 + 2 + 5, 5, 0);
    }

    /** "2: in the order, of all orders of its items, in which none is refused and the steps together are fewest" */
    private static void fewestSteps() {
        DrawerRing x = new DrawerRing();
        x.put(10, 1);
        x.put(3, 1);
        x.put(5, 1);
        x.put(1, 1);
        Rings.brings("the nearest first is dearer", x, "1,0,2,3", 1, 4, 1 + 2 + 2 + 5, 10, 0);
        Rings.brings("two down first", x, "1,0,2,3", 2, 4, 2 + 3 + 2 + 2, 5, 0);
        Rings.brings("a batch in its best order", x, "0,3,1,2", 2, 4, 9, 5, 0);
        Rings.brings("a batch in its worst order", x, "2,0,1,3", 2, 4, 9, 5, 0);
    }

    /** "of several the one that comes first if orders are compared place by place by where the items are told" */
    private static void firstOrder() {
        DrawerRing x = new DrawerRing();
        x.put(4, 1);
        x.put(8, 1);
        x.put(0, 1);
        x.put(3, 1);
        x.put(9, 1);
        // Without a step to the item 2, then four steps and four steps, either way round.
        Rings.brings("the item 0 is told ahead", x, "0,1,2", 2, 3, 8, 8, 0);
        Rings.brings("the item 1 is told ahead", x, "1,0,2", 2, 3, 8, 4, 0);
        Rings.brings("between them the item 2", x, "1,2,0", 2, 3, 8, 4, 0);
        // Three steps to the one and six to the other.
        Rings.brings("the first place counts first", x, "3,4", 2, 2, 9, 9, 1);
        Rings.brings("and not the number", x, "4,3", 2, 2, 9, 3, 1);
    }

    /** "if there is none, as 0": as told, up to the first one that is refused; not the nearest. */
    private static void noOrder() {
        DrawerRing x = new DrawerRing();
        x.put(3, 1);
        x.put(1, 1);
        x.put(2, 1);
        Rings.brings("one is not there, told last", x, "0,1,9", 2, 2, 3 + 2, 1, 1);
        Rings.brings("one is not there, told between", x, "0,9,1", 2, 1, 3, 3, 2);
        Rings.brings("one is not there, told first", x, "9,0,1", 2, 0, 0, 0, 3);
        x.jam(2, true);
        Rings.brings("one is jammed, told last", x, "0,1,2", 2, 2, 3 + 2, 1, 1);
        Rings.brings("one is jammed, told first", x, "2,0,1", 2, 0, 0, 0, 3);
        Rings.brings("none is jammed that is told", x, "0,1", 2, 2, 1 + 2, 3, 1);
        DrawerRing y = Rings.peaked(3, 10);
        int shut = y.put(3, 1);
        int near = y.put(1, 1);
        int nearer = y.put(0, 1);
        // The imbalance at 3 is 8, and more behind each pick.
        y.set(0, 7);
        String batch = near + "," + shut + "," + nearer;
        Rings.brings("one cannot be reached in any order", y, batch, 2, 1, 1, 1, 9);
        String shutLast = near + "," + nearer + "," + shut;
        Rings.brings("it is told last", y, shutLast, 2, 2, 1 + 1, 0, 10);
        Rings.brings("the nearest are picked all the same", y, batch, 1, 2, 1, 1, 10);
    }

    public static void main(String[] args) {
        turnsFirst();
        noSuchItem();
        reasons();
        stepsOfPicks();
        oneAndSix();
        endsAsTold();
        nearest();
        passedOver();
        refusedAtFirst();
        endsIfAllAreRefused();
        fewestSteps();
        firstOrder();
        noOrder();
        Due.end();
    }
}
