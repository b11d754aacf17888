/** The edges of the heads 'The ring' and 'Turning': each sentence that names one, as it is quoted. */
public final class EdgesOfTheRing {
    private EdgesOfTheRing() {
    }

    /** "There are 12 drawers, numbered from 0" */
    private static void twelveDrawers() {
        for (int drawer : new int[] {0, 11}) {
            DrawerRing x = new DrawerRing();
            Due.is("put into " + drawer, x.put(drawer, 1), 0);
            Due.is("move to " + drawer, x.move(0, drawer), drawer);
            Due.is("way to " + drawer, x.way(drawer), drawer == 0 ? 0 : -1);
            Due.is("turn to " + drawer, x.turn(drawer), drawer == 0 ? 0 : -1);
            Due.is("jam " + drawer, x.jam(drawer, true), 0);
            Due.is("drawer " + drawer, x.drawer(drawer, 0), 1);
            Due.is("ifPut into " + drawer, x.ifPut(drawer, 1), 2);
        }
        for (int none : new int[] {-13, -12, -2, -1, 12, 13, 23, 24}) {
            noSuchDrawer(none);
        }
        for (int none : Rings.FAR) {
            noSuchDrawer(none);
        }
    }

    private static void noSuchDrawer(int none) {
        DrawerRing x = new DrawerRing();
        x.put(0, 1);
        x.jam(11, true);
        x.turn(4);
        Due.noIndex("put into " + none, x, () -> x.put(none, 1));
        Due.noIndex("move to " + none, x, () -> x.move(0, none));
        Due.noIndex("turn to " + none, x, () -> x.turn(none));
        Due.noIndex("jam " + none, x, () -> x.jam(none, true));
        Due.noIndex("free " + none, x, () -> x.jam(none, false));
        Due.noIndex("drawer " + none, x, () -> x.drawer(none, 0));
        Due.noIndex("way to " + none, x, () -> x.way(none));
        Due.noIndex("ifPut into " + none, x, () -> x.ifPut(none, 1));
    }

    /** "At first the drawer 0 is at the window." "the drawer d is at the place (d - w + 12) % 12" */
    private static void places() {
        Due.is("the first drawer at the window", new DrawerRing().count(0), 0);
        for (int window = 0; window < 12; window++) {
            DrawerRing x = new DrawerRing();
            x.turn(window);
            int drawer = window;
            for (int place = 0; place < 12; place++) {
                Due.is("place of " + drawer + " by " + window, x.drawer(drawer, 2), place);
                drawer = drawer == 11 ? 0 : drawer + 1;
            }
        }
    }

    /**
     * "the place 0 is at the window, the place 6 at the top; the places 1 to 5 are the right side, the
     * places 7 to 11 the left side"
     */
    private static void sides() {
        int[] withRight = {20, 27, 27, 27, 27, 27, 20, 13, 13, 13, 13, 13};
        int[] withLeft = {20, 13, 13, 13, 13, 13, 20, 27, 27, 27, 27, 27};
        for (int window = 0; window < 12; window++) {
            for (int place = 0; place < 12; place++) {
                side(window, 1, place, withRight[place]);
                side(window, 5, place, withRight[place]);
                side(window, 7, place, withLeft[place]);
                side(window, 11, place, withLeft[place]);
            }
        }
    }

    private static void side(int window, int placeOf20, int placeOf7, int due) {
        DrawerRing x = Rings.wide();
        x.put((window + placeOf20) % 12, 20);
        x.put((window + placeOf7) % 12, 7);
        String what = "by " + window + " with 20 at " + placeOf20 + " and 7 at " + placeOf7 + ": ";
        Due.is(what + "if it was at the window", x.drawer(window, 4), due);
        x.turn(window);
        Due.is(what + "the imbalance", x.count(3), due);
    }

    /** "To step up is that the drawer (w + 1) % 12 comes to the window; to step down, (w + 11) % 12." */
    private static void stepsRound() {
        for (int window = 0; window < 12; window++) {
            int next = window == 11 ? 0 : window + 1;
            DrawerRing x = new DrawerRing();
            x.turn(window);
            int steps = x.count(5);
            int down = x.count(6);
            Due.is("up from " + window, x.turn(next), 1);
            Due.is("the window", x.count(0), next);
            Due.is("a step, none down", (x.count(5) - steps) * 100 + x.count(6) - down, 100);
            Due.is("down from " + next, x.turn(window), -1);
            Due.is("the window again", x.count(0), window);
            Due.is("two steps, one down", (x.count(5) - steps) * 100 + x.count(6) - down, 201);
        }
    }

    /** "There are at most 40 items" (those that are gone are none) */
    private static void fortyItems() {
        DrawerRing x = Rings.wide();
        for (int k = 0; k < 39; k++) {
            x.put(k % 12, 2);
        }
        Due.is("the item 40", x.put(4, 2), 39);
        for (int d = 0; d < 12; d++) {
            int drawer = d;
            Due.noState("the item 41 into " + d, x, () -> x.put(drawer, 1));
        }
        Due.is("40 items", x.count(1), 40);
        Due.is("the greatest imbalance, with 2 more in 0 to 3 than across", x.count(4), 8);
        Due.is("ifPut does not look at it", x.ifPut(0, 1), 9);
        Due.isTrue("bestDrawer does not look at it", x.bestDrawer(1) != -1);
        Due.is("move does not look at it", x.move(0, 1), 0);
        Due.is("one is picked", x.pick(0), 1);
        Due.is("39 items", x.count(1), 39);
        Due.is("40 again, with a new number", x.put(1, 1), 40);
        Due.noState("the item 41 again", x, () -> x.put(1, 1));
        x.undo();
        x.undo();
        Due.noState("40 items behind undo", x, () -> x.put(1, 1));
        x.undo();
        x.undo();
        Due.is("39 behind undo, and the number is given again", x.put(1, 1), 39);
    }

    /** "the items are numbered from 0 in the order in which they came, also those that are gone" */
    private static void numbers() {
        DrawerRing x = new DrawerRing();
        for (int k = 0; k < 60; k++) {
            Due.is("the number", x.put(k % 12, 3), k);
            x.pick(k);
        }
        Due.is("none is left", x.count(1), 0);
        Due.is("all were given", x.item(59, 0), -1);
        Due.noIndex("the next one was not", x, () -> x.item(60, 0));
    }

    /** "a weight, 1 to 20" */
    private static void weights() {
        DrawerRing x = Rings.wide();
        for (int weight = 1; weight <= 20; weight++) {
            Due.is("put the weight " + weight, x.put(weight % 12, weight), weight - 1);
            Due.is("it weighs " + weight, x.item(weight - 1, 0), weight);
            Due.isTrue("ifPut " + weight, x.ifPut(0, weight) >= 0);
            Due.isTrue("bestDrawer of " + weight, x.bestDrawer(weight) >= 0);
        }
        for (int none : new int[] {-20, -1, 0, 21, 22}) {
            noSuchWeight(none);
        }
        for (int none : Rings.FAR) {
            noSuchWeight(none);
        }
    }

    private static void noSuchWeight(int none) {
        DrawerRing x = Rings.wide();
        x.put(3, 20);
        Due.noArgument("put the weight " + none, x, () -> x.put(3, none));
        Due.noArgument("ifPut " + none, x, () -> x.ifPut(3, none));
        Due.noArgument("bestDrawer of " + none, x, () -> x.bestDrawer(none));
    }

    /** "The load of a drawer is the weight of its items together; it is at most setting 1." */
    private static void loads() {
        for (int most : new int[] {10, 11, 50, 99, 100}) {
            for (int drawer : new int[] {0, 6, 11}) {
                DrawerRing x = new DrawerRing();
                x.set(0, 300);
                x.set(1, most);
                Rings.load(x, drawer, most - 2);
                String what = "up to " + most + " in " + drawer + ": ";
                Due.noState(what + "3 more", x, () -> x.put(drawer, 3));
                x.put(drawer, 2);
                Due.is(what + "2 more", x.drawer(drawer, 0), most);
                Due.is(what + "it is full", x.drawer(drawer, 5), 0);
                Due.noState(what + "1 more", x, () -> x.put(drawer, 1));
                x.undo();
                x.put(drawer, 1);
                Due.is(what + "1 is left", x.drawer(drawer, 5), 1);
                Due.noState(what + "2 more then", x, () -> x.put(drawer, 2));
            }
        }
    }

    /** "less that of those on the left side, without its sign" */
    private static void withoutSign() {
        DrawerRing x = new DrawerRing();
        Due.is("nothing on both sides", x.count(3), 0);
        x.put(9, 5);
        Due.is("the left side is heavier", x.count(3), 5);
        x.put(2, 5);
        Due.is("both are even", x.count(3), 0);
        x.put(2, 1);
        Due.is("the right side is heavier", x.count(3), 1);
    }

    /** "If s is at most 6, up is the shorter way, otherwise down." "A turn with s as 0 has no steps." */
    private static void shorterWay() {
        int[] due = {0, 1, 2, 3, 4, 5, 6, -5, -4, -3, -2, -1};
        for (int window = 0; window < 12; window++) {
            for (int s = 0; s < 12; s++) {
                DrawerRing x = new DrawerRing();
                x.turn(window);
                int steps = x.count(5);
                int down = x.count(6);
                int drawer = window + s < 12 ? window + s : window + s - 12;
                String what = "from " + window + " to " + drawer + ": ";
                Due.is(what + "way", x.way(drawer), due[s]);
                Due.is(what + "turn", x.turn(drawer), due[s]);
                Due.is(what + "steps", x.count(5) - steps, s <= 6 ? s : 12 - s);
                Due.is(what + "steps down", x.count(6) - down, s <= 6 ? 0 : 12 - s);
                Due.is(what + "none the other way", x.count(7), 0);
            }
        }
    }

    /** Steps towards a drawer: whether each drawer that comes to the window is none of the two shut ones. */
    private static boolean isOpen(int window, int steps, int direction, int shut) {
        int w = window;
        for (int k = 0; k < steps; k++) {
            w = (w + direction + 12) % 12;
            if (w == shut || w == (shut + 6) % 12) {
                return false;
            }
        }
        return true;
    }

    private static int wayBetween(int window, int s, int shut) {
        boolean isUpOpen = isOpen(window, s, 1, shut);
        boolean isDownOpen = isOpen(window, 12 - s, -1, shut);
        if (s == 0) {
            return 0;
        }
        if (s <= 6) {
            return isUpOpen ? s : isDownOpen ? s - 12 : 99;
        }
        return isDownOpen ? s - 12 : isUpOpen ? s : 99;
    }

    /**
     * "A way is open if the imbalance behind each of its steps is at most setting 0." "The shorter way is
     * gone if it is open, otherwise the other one if that is; otherwise the turn is refused." With each
     * drawer in turn shut, that is at the first, at any, and at the last of the steps; not where it stands.
     */
    private static void behindEachStep() {
        for (int shut = 0; shut < 6; shut++) {
            for (int window = 0; window < 12; window++) {
                DrawerRing x = Rings.peaked(shut, 9);
                x.turn(window);
                x.set(0, 8);
                for (int s = 0; s < 12; s++) {
                    int due = wayBetween(window, s, shut);
                    wayAndTurn(x, "shut at " + shut, (window + s) % 12, due);
                }
                x.set(0, 9);
                for (int s = 0; s < 12; s++) {
                    wayAndTurn(x, "all are at the limit", (window + s) % 12, s <= 6 ? s : s - 12);
                }
            }
        }
    }

    private static void wayAndTurn(DrawerRing x, String what, int drawer, int due) {
        String which = what + ", from " + x.count(0) + " to " + drawer;
        Due.is(which + ": way", x.way(drawer), due);
        if (due == 99) {
            Due.noState(which + ": turn", x, () -> x.turn(drawer));
            return;
        }
        Due.is(which + ": turn", x.turn(drawer), due);
        Due.is(which + ": the window", x.count(0), drawer);
        x.undo();
    }

    /** "(Without a step both are open.)" "A turn with s as 0 has no steps." */
    private static void withoutAStep() {
        DrawerRing x = new DrawerRing();
        x.put(2, 1);
        x.put(0, 1);
        x.set(0, 0);
        Due.is("above the limit", x.count(3), 1);
        Due.is("way to where it stands", x.way(0), 0);
        Due.is("turn to where it stands", x.turn(0), 0);
        Due.is("no steps", x.count(5) + x.count(6) + x.count(7), 0);
        Due.is("refusal of what lies there", x.refusal(1), 0);
        Due.is("pick of what lies there", x.pick(1), 0);
        Due.noState("a step into it", x, () -> x.turn(1));
        Due.noState("a step down into it", x, () -> x.turn(11));
        Due.noState("two steps, of which the first goes into it", x, () -> x.turn(2));
    }

    /** Setting 0 as 0 and as 300, the least and the greatest one. */
    private static void limits() {
        DrawerRing x = new DrawerRing();
        x.set(0, 0);
        x.put(0, 20);
        x.put(6, 7);
        Due.noState("the limit 0: on the right", x, () -> x.put(1, 1));
        Due.noState("the limit 0: on the left", x, () -> x.put(11, 1));
        Due.is("the limit 0: six steps meet 13", x.way(6), 99);
        DrawerRing y = Rings.wide();
        for (int k = 1; k <= 3; k++) {
            Rings.load(y, k, 100);
        }
        Due.is("the limit 300: the imbalance", y.count(3), 300);
        Due.noState("the limit 300: 301", y, () -> y.put(5, 1));
        Due.is("the limit 300: the greatest one with 1 more", y.ifPut(5, 1), 301);
        Due.is("the limit 300: way", y.way(6), 6);
        Due.is("the limit 300: way down", y.way(7), -5);
    }

    public static void main(String[] args) {
        twelveDrawers();
        places();
        sides();
        stepsRound();
        fortyItems();
        numbers();
        weights();
        loads();
        withoutSign();
        shorterWay();
        behindEachStep();
        withoutAStep();
        limits();
        Due.end();
    }
}
