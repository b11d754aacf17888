/** Promises 5 to 7: turn, jam, set. */
public final class RingCalls {
    private RingCalls() {
    }

    private static void turn() {
        DrawerRing x = new DrawerRing();
        int[] due = {0, 1, 2, 3, 4, 5, 6, -5, -4, -3, -2, -1};
        for (int from = 0; from < 12; from++) {
            for (int s = 0; s < 12; s++) {
                DrawerRing y = new DrawerRing();
                y.turn(from);
                int before = y.count(5);
                Due.is("5: turn from " + from + " by " + s, y.turn((from + s) % 12), due[s]);
                Due.is("5: the window then", y.count(0), (from + s) % 12);
                Due.is("5: the steps", y.count(5) - before, Math.abs(due[s]));
            }
        }
        Due.is("5: six steps go up", x.turn(6), 6);
        Due.is("5: no step", x.turn(6), 0);
        Due.is("5: undoable, also without steps", x.count(10), 2);
        x.jam(7, true);
        Due.is("5: to a jammed drawer", x.turn(7), 1);
        x.turn(4);
        Due.is("5: steps", x.count(5), 10);
        Due.is("5: steps down", x.count(6), 3);
        Due.is("5: no turn the other way", x.count(7), 0);
        x.undo();
        Due.is("5: undo brings the window back", x.count(0), 7);
        Due.is("5: and the steps", x.count(5) * 10 + x.count(6), 70);
        Due.noIndex("5: drawer 12", x, () -> x.turn(12));
        Due.noIndex("5: drawer -1", x, () -> x.turn(-1));
        Due.noIndex("5: a far drawer", x, () -> x.turn(Integer.MIN_VALUE));
    }

    /** One item of 10 in the drawer 3: the imbalance is 10 unless 3 or 9 is at the window. */
    private static void turnInBalance() {
        DrawerRing x = new DrawerRing();
        x.put(3, 10);
        x.set(0, 10);
        Due.is("5: at the limit", x.turn(1), 1);
        x.turn(2);
        x.set(0, 9);
        Due.is("5: above the limit where it stands, but not behind the step", x.turn(3), 1);
        Due.noState("5: above the limit behind the step", x, () -> x.turn(2));
        Due.noState("5: above the limit on both ways", x, () -> x.turn(9));
        Due.is("5: without a step", x.turn(3), 0);
        x.set(0, 10);
        x.turn(4);
        x.set(0, 9);
        Due.is("5: without a step, above the limit", x.turn(4), 0);
        Due.is("5: a step down", x.turn(3), -1);
        Due.noIndex("5: the index is ahead of the state", x, () -> x.turn(12));
    }

    private static void jam() {
        DrawerRing x = new DrawerRing();
        Due.is("6: it was free", x.jam(4, true), 0);
        Due.is("6: it was jammed", x.jam(4, true), 1);
        Due.is("6: jammed drawers", x.count(9), 1);
        Due.is("6: drawer", x.drawer(4, 3), 1);
        Due.is("6: freed", x.jam(4, false), 1);
        Due.is("6: it was free again", x.jam(4, false), 0);
        Due.is("6: undoable, also if nothing is changed", x.count(10), 4);
        x.undo();
        Due.is("6: still free", x.drawer(4, 3), 0);
        x.undo();
        Due.is("6: jammed behind undo", x.drawer(4, 3), 1);
        Due.noIndex("6: drawer 12", x, () -> x.jam(12, true));
        Due.noIndex("6: drawer -1", x, () -> x.jam(-1, false));
    }

    private static void set() {
        DrawerRing x = new DrawerRing();
        int[][] ranges = {{0, 300, 60}, {10, 100, 50}, {0, 2, 0}};
        for (int k = 0; k < 3; k++) {
            int setting = k;
            int least = ranges[k][0];
            int greatest = ranges[k][1];
            Due.is("7: the first value of " + k, x.set(k, least), ranges[k][2]);
            Due.is("7: the least value of " + k, x.set(k, greatest), least);
            Due.is("7: the greatest value of " + k, x.set(k, greatest), greatest);
            Due.noArgument("7: below the least value of " + k, x, () -> x.set(setting, least - 1));
            Due.noArgument("7: above the greatest value of " + k, x, () -> x.set(setting, greatest + 1));
        }
        Due.is("7: undoable, also if nothing is changed", x.count(10), 6);
        Due.noIndex("7: setting 3", x, () -> x.set(3, 1));
        Due.noIndex("7: setting -1", x, () -> x.set(-1, 1));
        Due.noIndex("7: the index is ahead of the argument", x, () -> x.set(3, 1000));
        for (int k = 0; k < 3; k++) {
            x.put(4, 15);
        }
        x.put(7, 16);
        Due.is("7: to the greatest load of a drawer", x.set(1, 45), 100);
        Due.noState("7: below it", x, () -> x.set(1, 44));
        Due.noArgument("7: the argument is ahead of the state", x, () -> x.set(1, 9));
        Due.is("7: the other settings do not look at the loads", x.set(0, 0), 300);
        x.undo();
        Due.is("7: undo", x.setting(0), 300);
    }

    public static void main(String[] args) {
        turn();
        turnInBalance();
        jam();
        set();
        Due.end();
    }
}
