/** Promises 13 to 17: drawer, item, count, setting, refusal. */
public final class Looks {
    private Looks() {
    }

    /** Loads: 0: 10; 1: 8; 3: 40; 6: 5; 7: 12; 9: 35. */
    private static DrawerRing filled() {
        DrawerRing x = new DrawerRing();
        x.put(0, 10);
        x.put(3, 20);
        x.put(3, 20);
        x.put(9, 20);
        x.put(9, 15);
        x.put(6, 5);
        x.put(7, 12);
        x.put(1, 8);
        return x;
    }

    private static void drawer() {
        DrawerRing x = filled();
        x.turn(4);
        x.jam(3, true);
        x.set(1, 60);
        int[] of3 = {40, 2, 11, 1, 1, 20};
        int[] of4 = {0, 0, 0, 0, 6, 60};
        int[] of9 = {35, 2, 5, 0, 1, 25};
        for (int what = 0; what < 6; what++) {
            Due.is("13: drawer(3, " + what + ")", x.drawer(3, what), of3[what]);
            Due.is("13: drawer(4, " + what + ")", x.drawer(4, what), of4[what]);
            Due.is("13: drawer(9, " + what + ")", x.drawer(9, what), of9[what]);
        }
        Due.noIndex("13: drawer 12", x, () -> x.drawer(12, 0));
        Due.noIndex("13: drawer -1", x, () -> x.drawer(-1, 0));
        Due.noIndex("13: the index is ahead of the argument", x, () -> x.drawer(12, 6));
        Due.noArgument("13: what is 6", x, () -> x.drawer(0, 6));
        Due.noArgument("13: what is -1", x, () -> x.drawer(11, -1));
    }

    private static void item() {
        DrawerRing x = filled();
        Due.is("14: its weight", x.item(4, 0), 15);
        Due.is("14: its drawer", x.item(4, 1), 9);
        x.pick(1);
        Due.is("14: no weight if it is gone", x.item(1, 0), -1);
        Due.is("14: no drawer if it is gone", x.item(1, 1), -1);
        Due.is("14: the items behind it are as before", x.item(7, 0) * 100 + x.item(7, 1), 801);
        Due.is("14: and those ahead of it", x.item(0, 0) * 100 + x.item(0, 1), 1000);
        Due.noIndex("14: not given so far", x, () -> x.item(8, 0));
        Due.noIndex("14: below 0", x, () -> x.item(-1, 0));
        Due.noIndex("14: the index is ahead of the argument", x, () -> x.item(8, 2));
        Due.noArgument("14: what is 2", x, () -> x.item(0, 2));
        Due.noArgument("14: what is -1, of an item that is gone", x, () -> x.item(1, -1));
    }

    private static void count() {
        DrawerRing x = filled();
        Due.is("15: imbalance", x.count(3), 1);
        Due.is("15: the greatest imbalance", x.count(4), 6);
        x.turn(4);
        x.turn(2);
        x.jam(5, true);
        x.jam(6, true);
        x.pick(1);
        // The imbalance: right of the drawer 3 lie 4 to 8 with 5 + 12, left of it 10 to 2 with 10 + 8.
        // The greatest one, by the drawer 1 at the window: 2 to 6 with 20 + 5, 8 to 0 with 35 + 10.
        int[] due = {3, 7, 90, 1, 20, 7, 2, 0, 1, 2, 6};
        for (int what = 0; what <= 10; what++) {
            Due.is("15: count(" + what + ")", x.count(what), due[what]);
        }
        Due.noArgument("15: what is 11", x, () -> x.count(11));
        Due.noArgument("15: what is -1", x, () -> x.count(-1));
    }

    private static void setting() {
        DrawerRing x = new DrawerRing();
        x.set(0, 61);
        x.set(1, 51);
        x.set(2, 1);
        Due.is("16: setting(0)", x.setting(0), 61);
        Due.is("16: setting(1)", x.setting(1), 51);
        Due.is("16: setting(2)", x.setting(2), 1);
        Due.noIndex("16: setting 3", x, () -> x.setting(3));
        Due.noIndex("16: setting -1", x, () -> x.setting(-1));
    }

    private static void refusal() {
        DrawerRing x = new DrawerRing();
        Due.is("17: not given", x.refusal(0), 1);
        Due.is("17: below 0", x.refusal(-1), 1);
        Due.is("17: far", x.refusal(Integer.MIN_VALUE), 1);
        Due.is("17: far", x.refusal(Integer.MAX_VALUE), 1);
        x.put(3, 10);
        x.put(4, 10);
        Due.is("17: none", x.refusal(1), 0);
        x.set(0, 19);
        Due.is("17: the turn", x.refusal(1), 3);
        x.jam(4, true);
        Due.is("17: jammed is ahead of the turn", x.refusal(1), 2);
        Due.is("17: the other one", x.refusal(0), 3);
        x.jam(4, false);
        x.set(0, 20);
        x.pick(1);
        Due.is("17: gone", x.refusal(1), 1);
        x.jam(4, true);
        Due.is("17: gone is ahead of jammed", x.refusal(1), 1);
    }

    public static void main(String[] args) {
        drawer();
        item();
        count();
        setting();
        refusal();
        Due.end();
    }
}
