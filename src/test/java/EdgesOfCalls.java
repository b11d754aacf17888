/** The edges of the promises 1 to 7 and of the head 'Settings': each sentence that names one, as it is quoted. */
public final class EdgesOfCalls {
    private EdgesOfCalls() {
    }

    /** 1: "Creates empty drawers, with an empty buffer." Each object is one of its own. */
    private static void newObject() {
        DrawerRing used = new DrawerRing();
        used.put(1, 20);
        used.turn(3);
        used.jam(4, true);
        used.set(0, 299);
        used.set(1, 99);
        used.set(2, 2);
        Due.type(used, "0");
        DrawerRing x = new DrawerRing();
        for (int what = 0; what <= 10; what++) {
            Due.is("1: count(" + what + ")", x.count(what), 0);
        }
        for (int d = 0; d < 12; d++) {
            int[] due = {0, 0, d, 0, 0, 50};
            for (int what = 0; what <= 5; what++) {
                Due.is("1: drawer(" + d + ", " + what + ")", x.drawer(d, what), due[what]);
            }
        }
        int[] settings = {60, 50, 0};
        for (int k = 0; k < 3; k++) {
            Due.is("1: setting(" + k + ")", x.setting(k), settings[k]);
        }
        Due.is("1: the buffer", x.clearBuffer(), 0);
        Due.is("1: firstError", x.firstError(), 0);
        Due.is("1: refusal", x.refusal(0), 1);
        Due.is("1: evenness", x.evenness(), 1.0);
        Due.noIndex("1: no number is given", x, () -> x.item(0, 0));
        Due.noIndex("1: there is no item", x, () -> x.pick(0));
        Due.noState("1: no state is saved", x, x::undo);
    }

    /** 2: "Puts an item into a drawer, wherever it is." At each place, jammed or not. */
    private static void putAnywhere() {
        for (int place = 0; place < 12; place++) {
            DrawerRing x = new DrawerRing();
            x.turn(5);
            int drawer = (5 + place) % 12;
            Due.is("2: at the place " + place, x.put(drawer, 20), 0);
            x.jam(drawer, true);
            Due.is("2: at the place " + place + ", jammed", x.put(drawer, 20), 1);
            Due.is("2: it lies there", x.item(1, 1), drawer);
            Due.is("2: the ring stays", x.count(0) * 100 + x.count(5), 505);
        }
    }

    /** 2: "or the imbalance with the drawer that is at the window would be above setting 0" */
    private static void putToTheLimit() {
        for (int place = 0; place < 12; place++) {
            boolean isSide = place != 0 && place != 6;
            DrawerRing x = new DrawerRing();
            x.turn(8);
            x.set(0, 7);
            int drawer = (8 + place) % 12;
            if (isSide) {
                Due.noState("2: 8 of 7 at the place " + place, x, () -> x.put(drawer, 8));
                Due.is("2: 7 of 7 at the place " + place, x.put(drawer, 7), 0);
                Due.noState("2: 1 more at the place " + place, x, () -> x.put(drawer, 1));
                x.put((drawer + 6) % 12, 14);
                Due.is("2: across from it to the limit again", x.count(3), 7);
                Due.noState("2: across from it 1 more", x, () -> x.put((drawer + 6) % 12, 1));
            } else {
                Due.is("2: 20 at the place " + place, x.put(drawer, 20), 0);
                Due.is("2: 20 more at the place " + place, x.put(drawer, 20), 1);
                Due.is("2: no imbalance", x.count(3), 0);
                Due.is("2: though with others at the window", x.count(4), 40);
            }
        }
    }

    /** 2: The imbalance that counts is the one as it would be: it may get less, but not to above setting 0. */
    private static void putAboveTheLimit() {
        DrawerRing x = new DrawerRing();
        x.put(2, 20);
        x.set(0, 5);
        Due.noState("2: above the limit as before", x, () -> x.put(0, 1));
        Due.noState("2: less, but above it", x, () -> x.put(8, 14));
        Due.noState("2: more", x, () -> x.put(3, 1));
        Due.is("2: less, to the limit", x.put(8, 15), 1);
        x.undo();
        Due.is("2: none at all", x.put(8, 20), 1);
    }

    /** 3: "Returns the drawer in which it was." From each drawer to each one, wherever both are. */
    private static void moveAnywhere() {
        for (int from = 0; from < 12; from++) {
            DrawerRing x = new DrawerRing();
            x.turn(7);
            x.put(from, 20);
            int was = from;
            for (int k = 0; k < 12; k++) {
                int to = (from + k * 5) % 12;
                Due.is("3: from " + was + " to " + to, x.move(0, to), was);
                Due.is("3: it lies there", x.item(0, 1), to);
                Due.is("3: its load", x.drawer(to, 0), 20);
                Due.is("3: all loads", x.count(2), 20);
                was = to;
            }
            Due.is("3: the ring stays", x.count(0), 7);
        }
    }

    /** 3: "if there is no such item or drawer" */
    private static void moveNone() {
        DrawerRing x = new DrawerRing();
        x.put(0, 1);
        x.put(0, 1);
        x.pick(0);
        for (int none : new int[] {-2, -1, 0, 2, 3}) {
            Due.noIndex("3: the item " + none, x, () -> x.move(none, 1));
        }
        Due.noIndex("3: the drawer -1", x, () -> x.move(1, -1));
        Due.noIndex("3: the drawer 12", x, () -> x.move(1, 12));
        Due.is("3: the one that there is", x.move(1, 1), 0);
    }

    /** 3: "if one of both drawers is jammed": the one, the other, both, and one that is both. */
    private static void moveJammed() {
        DrawerRing x = new DrawerRing();
        x.put(4, 1);
        x.jam(4, true);
        Due.noState("3: out of a jammed drawer", x, () -> x.move(0, 5));
        Due.noState("3: within a jammed drawer", x, () -> x.move(0, 4));
        x.jam(5, true);
        Due.noState("3: both are jammed", x, () -> x.move(0, 5));
        x.jam(4, false);
        Due.noState("3: into a jammed drawer", x, () -> x.move(0, 5));
        Due.is("3: past a jammed drawer", x.move(0, 6), 4);
    }

    /** 3: "or the load would be above setting 1 then (in its own drawer it counts once)" */
    private static void moveToTheLoad() {
        DrawerRing x = new DrawerRing();
        x.set(1, 20);
        x.put(0, 7);
        x.put(0, 6);
        x.put(6, 13);
        Due.noState("3: 21 of 20", x, () -> x.put(6, 8));
        Due.is("3: to the limit", x.move(0, 6), 0);
        Due.is("3: it is full", x.drawer(6, 5), 0);
        Due.noState("3: the next one above it", x, () -> x.move(1, 6));
        Due.is("3: within its own drawer that is full", x.move(0, 6), 6);
        Due.is("3: it is as full as before", x.drawer(6, 0), 20);
        x.put(0, 14);
        Due.is("3: it is full, too", x.drawer(0, 5), 0);
        Due.noState("3: from one that is full to one that is full", x, () -> x.move(0, 0));
        x.set(1, 21);
        Due.noState("3: 27 of 21", x, () -> x.move(0, 0));
        x.set(1, 27);
        Due.is("3: 27 of 27", x.move(0, 0), 6);
    }

    /** 3: "or the imbalance as it would be above setting 0": with the drawer at the window, at its own place and the new one. */
    private static void moveToTheLimit() {
        DrawerRing x = new DrawerRing();
        x.turn(10);
        x.put(0, 9);
        x.set(0, 9);
        Due.is("3: from the right to the left, to the limit", x.move(0, 8), 0);
        Due.is("3: to the top", x.move(0, 4), 8);
        x.put(9, 5);
        Due.is("3: as it would be, 5 less 9", x.move(0, 11), 4);
        Due.noState("3: both on one side", x, () -> x.move(0, 5));
        x.set(0, 14);
        Due.is("3: both on one side, to the limit", x.move(0, 5), 11);
        x.set(0, 13);
        Due.noState("3: within its own drawer, above the limit", x, () -> x.move(0, 5));
        Due.noState("3: on the same side, above the limit", x, () -> x.move(0, 6));
        Due.is("3: out of it", x.move(0, 10), 5);
        x.set(0, 4);
        Due.noState("3: from the window to the window, above the limit", x, () -> x.move(0, 10));
        Due.noState("3: from the window to the top, above the limit", x, () -> x.move(0, 4));
        Due.is("3: to the other side, to the limit", x.move(0, 0), 10);
    }

    /** 4: "Returns the steps that are gone." Not below 0; none at the window. "if there is no such item" */
    private static void pick() {
        DrawerRing x = new DrawerRing();
        x.put(11, 3);
        x.put(11, 4);
        x.put(6, 5);
        Due.is("4: one step down", x.pick(1), 1);
        Due.is("4: no step", x.pick(0), 0);
        Due.is("4: five steps down", x.pick(2), 5);
        Due.is("4: steps", x.count(5) * 100 + x.count(6), 606);
        Due.is("4: picked", x.count(8), 3);
        Due.is("4: the last one is gone", x.count(1) + x.count(2), 0);
        for (int none : new int[] {-1, 0, 1, 2, 3}) {
            Due.noIndex("4: the item " + none, x, () -> x.pick(none));
        }
    }

    /** 5: "Returns the steps up, or, below 0, the steps down." To a jammed drawer as to another one. */
    private static void turnToJammed() {
        DrawerRing x = new DrawerRing();
        for (int d = 0; d < 12; d++) {
            x.jam(d, true);
        }
        int[] due = {0, 1, 2, 3, 4, 5, 6, -5, -4, -3, -2, -1};
        for (int d = 0; d < 12; d++) {
            Due.is("5: way to the jammed drawer " + d, x.way(d), due[d]);
            Due.is("5: turn to the jammed drawer " + d, x.turn(d), due[d]);
            x.undo();
        }
    }

    /** 6: "Returns 1 if it was jammed, otherwise 0." Each drawer, none and all of them. */
    private static void jamEach() {
        DrawerRing x = new DrawerRing();
        for (int d = 0; d < 12; d++) {
            Due.is("6: free, freed", x.jam(d, false), 0);
            Due.is("6: free, jammed", x.jam(d, true), 0);
            Due.is("6: jammed, jammed", x.jam(d, true), 1);
            Due.is("6: jammed drawers", x.count(9), d + 1);
            Due.is("6: the next one is free", x.drawer((d + 1) % 12, 3), d == 11 ? 1 : 0);
        }
        for (int d = 0; d < 12; d++) {
            Due.is("6: jammed, freed", x.jam(d, false), 1);
            Due.is("6: jammed drawers", x.count(9), 11 - d);
        }
    }

    /** Settings: "0: the greatest imbalance, 0 to 300 ...; 1: the greatest load, 10 to 100 ...; 2: the rule, 0 to 2" */
    private static void ranges() {
        int[][] ranges = {{0, 300, 60}, {10, 100, 50}, {0, 2, 0}};
        for (int k = 0; k < 3; k++) {
            int setting = k;
            int least = ranges[k][0];
            int greatest = ranges[k][1];
            DrawerRing x = new DrawerRing();
            int was = ranges[k][2];
            for (int value : new int[] {least, least + 1, greatest - 1, greatest, least, least}) {
                Due.is("7: set(" + k + ", " + value + ")", x.set(k, value), was);
                Due.is("7: setting(" + k + ")", x.setting(k), value);
                was = value;
            }
            for (int none : new int[] {least - 2, least - 1, greatest + 1, greatest + 2, -1, -least - 1}) {
                Due.noArgument("7: set(" + k + ", " + none + ")", x, () -> x.set(setting, none));
            }
            for (int none : Rings.FAR) {
                Due.noArgument("7: set(" + k + ", " + none + ")", x, () -> x.set(setting, none));
            }
        }
    }

    /** 7: "if there is no such setting" */
    private static void noSuchSetting() {
        DrawerRing x = new DrawerRing();
        for (int none : new int[] {-3, -2, -1, 3, 4}) {
            Due.noIndex("7: set(" + none + ")", x, () -> x.set(none, 10));
            Due.noIndex("16: setting(" + none + ")", x, () -> x.setting(none));
        }
        for (int none : Rings.FAR) {
            Due.noIndex("7: set(" + none + ")", x, () -> x.set(none, 10));
            Due.noIndex("16: setting(" + none + ")", x, () -> x.setting(none));
        }
    }

    /** Settings: "(not less than a drawer has)"; 7: "if it is the setting 1, and a drawer has a greater load" */
    private static void notLessThanALoad() {
        for (int drawer = 0; drawer < 12; drawer++) {
            DrawerRing x = new DrawerRing();
            Rings.load(x, drawer, 33);
            x.put((drawer + 6) % 12, 20);
            Due.is("7: to the load of " + drawer, x.set(1, 33), 50);
            Due.noState("7: less than the load of " + drawer, x, () -> x.set(1, 32));
            Due.noState("7: the least value", x, () -> x.set(1, 10));
            Due.noArgument("7: less than the least value", x, () -> x.set(1, 9));
            Due.is("7: 0 is not asked for it", x.set(0, 0), 60);
            Due.is("7: 2 is not asked for it", x.set(2, 2), 0);
        }
    }

    /** 7: Setting 0 may be less than the imbalance is; and what is set counts from then on. */
    private static void setCountsAtOnce() {
        DrawerRing x = new DrawerRing();
        x.put(1, 20);
        Due.is("7: less than the imbalance", x.set(0, 19), 60);
        Due.noState("7: put is asked for it", x, () -> x.put(0, 1));
        Due.is("7: a step that ends it", x.way(1), 1);
        Due.is("7: two steps go into it", x.way(2), 99);
        x.set(0, 20);
        Due.is("7: two steps are open", x.way(2), 2);
        x.set(1, 20);
        Due.noState("7: put is asked for the load", x, () -> x.put(1, 1));
        Due.is("7: what the load can grow by", x.drawer(1, 5), 0);
    }

    public static void main(String[] args) {
        newObject();
        putAnywhere();
        putToTheLimit();
        putAboveTheLimit();
        moveAnywhere();
        moveNone();
        moveJammed();
        moveToTheLoad();
        moveToTheLimit();
        pick();
        turnToJammed();
        jamEach();
        ranges();
        noSuchSetting();
        notLessThanALoad();
        setCountsAtOnce();
        Due.end();
    }
}
