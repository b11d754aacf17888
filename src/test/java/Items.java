/** Promises 1 to 4: a new object, put, move, pick. */
public final class Items {
    private Items() {
    }

    private static void newObject() {
        DrawerRing x = new DrawerRing();
        Due.is("1: NONE", DrawerRing.NONE, -1);
        for (int what = 0; what <= 10; what++) {
            Due.is("1: count(" + what + ")", x.count(what), 0);
        }
        int[] settings = {60, 50, 0};
        for (int setting = 0; setting < 3; setting++) {
            Due.is("1: setting(" + setting + ")", x.setting(setting), settings[setting]);
        }
        for (int d = 0; d < 12; d++) {
            int[] due = {0, 0, d, 0, 0, 50};
            for (int what = 0; what < 6; what++) {
                Due.is("1: drawer(" + d + ", " + what + ")", x.drawer(d, what), due[what]);
            }
        }
        Due.is("1: clearBuffer", x.clearBuffer(), 0);
        Due.is("1: firstError", x.firstError(), 0);
        Due.noIndex("1: item", x, () -> x.item(0, 0));
        Due.noState("1: undo", x, x::undo);
    }

    private static void put() {
        DrawerRing x = new DrawerRing();
        Due.is("2: the first number", x.put(0, 20), 0);
        Due.is("2: the second number", x.put(0, 20), 1);
        Due.is("2: up to the greatest load", x.put(0, 10), 2);
        Due.is("2: the load", x.drawer(0, 0), 50);
        Due.noState("2: a load above setting 1", x, () -> x.put(0, 1));
        Due.is("2: saved states", x.count(10), 3);
        x.jam(6, true);
        Due.is("2: into a jammed drawer", x.put(6, 1), 3);
        Due.noIndex("2: drawer 12", x, () -> x.put(12, 1));
        Due.noIndex("2: drawer -1", x, () -> x.put(-1, 1));
        Due.noIndex("2: the index is ahead of the argument", x, () -> x.put(12, 0));
        Due.noArgument("2: weight 0", x, () -> x.put(1, 0));
        Due.noArgument("2: weight 21", x, () -> x.put(1, 21));
        Due.noArgument("2: a far weight", x, () -> x.put(1, Integer.MIN_VALUE));
        Due.noArgument("2: the argument is ahead of the state", x, () -> x.put(0, 21));
        Due.is("2: undoable", x.undo(), 4);
        Due.is("2: as it was", x.count(1), 3);
    }

    private static void putToTheImbalance() {
        DrawerRing x = new DrawerRing();
        for (int k = 1; k <= 3; k++) {
            x.put(k, 20);
        }
        Due.is("2: imbalance at the limit", x.count(3), 60);
        Due.noState("2: above the limit", x, () -> x.put(4, 1));
        Due.is("2: at the window", x.put(0, 1), 3);
        Due.is("2: at the top", x.put(6, 1), 4);
        Due.is("2: on the other side", x.put(7, 20), 5);
        x.set(0, 30);
        Due.noState("2: above the limit, though as before", x, () -> x.put(0, 1));
        Due.noState("2: above the limit, though less than before", x, () -> x.put(11, 9));
        Due.is("2: less, to the limit", x.put(11, 10), 6);

        DrawerRing left = new DrawerRing();
        left.turn(6);
        for (int k = 1; k <= 3; k++) {
            left.put(k, 20);
        }
        Due.is("2: the sides go with the window", left.count(3), 60);
        Due.noState("2: above the limit on the left", left, () -> left.put(5, 1));
        Due.is("2: the other side is free", left.put(11, 20), 3);
    }

    private static void putManyItems() {
        DrawerRing x = new DrawerRing();
        for (int k = 0; k < 40; k++) {
            Due.is("2: number", x.put(k % 12, 1), k);
        }
        Due.noState("2: the item 41", x, () -> x.put(5, 1));
        x.pick(39);
        Due.is("2: a number is not given again", x.put(5, 1), 40);
        Due.is("2: items", x.count(1), 40);
        x.undo();
        Due.is("2: but behind undo it is", x.put(5, 1), 40);
    }

    private static void move() {
        DrawerRing x = new DrawerRing();
        x.put(0, 20);
        x.put(1, 20);
        x.put(1, 20);
        x.put(1, 10);
        Due.is("3: the drawer in which it was", x.move(0, 7), 0);
        Due.is("3: it lies there", x.item(0, 1), 7);
        Due.is("3: the load that it left", x.drawer(0, 0), 0);
        Due.is("3: the load that it makes", x.drawer(7, 0), 20);
        Due.is("3: the imbalance then", x.count(3), 30);
        Due.is("3: into its own drawer, which is full", x.move(1, 1), 1);
        Due.is("3: it counts once", x.drawer(1, 0), 50);
        Due.is("3: undoable, also if nothing is changed", x.undo(), 5);
        Due.noState("3: the load", x, () -> x.move(0, 1));
        Due.noIndex("3: no such item", x, () -> x.move(4, 1));
        Due.noIndex("3: item -1", x, () -> x.move(-1, 1));
        Due.noIndex("3: drawer 12", x, () -> x.move(0, 12));
        Due.noIndex("3: drawer -1", x, () -> x.move(0, -1));
        x.jam(7, true);
        Due.noState("3: out of a jammed drawer", x, () -> x.move(0, 0));
        Due.noState("3: into a jammed drawer", x, () -> x.move(1, 7));
        Due.noState("3: within a jammed drawer", x, () -> x.move(0, 7));
        Due.noIndex("3: the index is ahead of the state", x, () -> x.move(0, 12));
        x.jam(7, false);
        x.pick(0);
        Due.noIndex("3: an item that is gone", x, () -> x.move(0, 0));
    }

    private static void moveToTheImbalance() {
        DrawerRing x = new DrawerRing();
        x.put(1, 20);
        x.put(11, 20);
        x.set(0, 20);
        Due.is("3: to the limit, by the window", x.move(0, 0), 1);
        Due.noState("3: from one side to the other", x, () -> x.move(0, 11));
        Due.is("3: to the limit, by the top", x.move(0, 6), 0);
        Due.is("3: back", x.move(0, 5), 6);
        x.set(0, 19);
        Due.noState("3: above the limit", x, () -> x.move(0, 6));
        Due.is("3: from place to place on one side", x.move(0, 2), 5);
        x.set(0, 300);
        x.put(3, 5);
        x.set(0, 4);
        Due.noState("3: within its own drawer, above the limit already", x, () -> x.move(0, 2));
        Due.is("3: within the limit then", x.move(2, 6), 3);
    }

    private static void pick() {
        DrawerRing x = new DrawerRing();
        x.put(3, 20);
        x.put(9, 20);
        x.put(3, 20);
        x.put(0, 5);
        Due.is("4: no steps", x.pick(3), 0);
        Due.is("4: steps up", x.pick(0), 3);
        Due.is("4: six steps", x.pick(1), 6);
        Due.is("4: the window", x.count(0), 9);
        Due.is("4: it is gone", x.item(1, 1), -1);
        Due.is("4: the load", x.count(2), 20);
        Due.is("4: the steps", x.count(5), 9);
        Due.is("4: no step down", x.count(6), 0);
        Due.is("4: picked items", x.count(8), 3);
        x.put(8, 2);
        Due.is("4: a step down", x.pick(4), 1);
        Due.is("4: the step down is counted", x.count(6), 1);
        Due.noIndex("4: gone", x, () -> x.pick(4));
        Due.noIndex("4: not given", x, () -> x.pick(5));
        Due.noIndex("4: below 0", x, () -> x.pick(-1));
        x.jam(3, true);
        Due.noState("4: jammed", x, () -> x.pick(2));
        x.jam(3, false);
        x.set(0, 19);
        Due.noState("4: the turn is refused", x, () -> x.pick(2));
        x.set(0, 20);
        Due.is("4: the item weighs on the turn", x.pick(2), 5);
        Due.is("4: undoable", x.undo(), 5);
        Due.is("4: it is there again", x.item(2, 1), 3);
        Due.is("4: the window is as before", x.count(0), 8);
        Due.is("4: the counts are as before", x.count(8) * 100 + x.count(5), 410);
    }

    public static void main(String[] args) {
        newObject();
        put();
        putToTheImbalance();
        putManyItems();
        move();
        moveToTheImbalance();
        pick();
        Due.end();
    }
}
