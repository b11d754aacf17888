/** The edges of the promises 13 to 23: each sentence that names one, as it is quoted. */
public final class EdgesOfLooks {
    private EdgesOfLooks() {
    }

    /** 13: "what is not 0 to 5"; 14: "0 or 1"; 15: "0 to 10"; 21: "rule or what is out of range" */
    private static void whats() {
        for (int none : new int[] {-2, -1, 6, 11, 12}) {
            noSuchWhat(none);
        }
        for (int none : Rings.FAR) {
            noSuchWhat(none);
        }
        DrawerRing x = new DrawerRing();
        x.put(1, 1);
        Due.noArgument("14: what is 2", x, () -> x.item(0, 2));
        Due.noArgument("21: what is 4", x, () -> x.ifPicked(2, 4));
        Due.noArgument("21: rule is 3", x, () -> x.ifPicked(3, 3));
        Due.is("13: what is 5", x.drawer(0, 5), 50);
        Due.is("14: what is 1", x.item(0, 1), 1);
        Due.is("15: what is 10", x.count(10), 1);
        Due.is("21: both are the greatest", x.ifPicked(2, 3), -1);
    }

    private static void noSuchWhat(int none) {
        DrawerRing x = new DrawerRing();
        x.put(1, 1);
        Due.noArgument("13: what is " + none, x, () -> x.drawer(0, none));
        Due.noArgument("14: what is " + none, x, () -> x.item(0, none));
        if (none < 0 || none > 10) {
            Due.noArgument("15: what is " + none, x, () -> x.count(none));
        }
        Due.noArgument("21: what is " + none + ", no batch", x, () -> x.ifPicked(0, none));
        Due.noArgument("21: rule is " + none + ", no batch", x, () -> x.ifPicked(none, 0));
        x.append('0');
        Due.noArgument("21: what is " + none, x, () -> x.ifPicked(0, none));
        Due.noArgument("21: rule is " + none, x, () -> x.ifPicked(none, 0));
        Due.noArgument("21: both are " + none, x, () -> x.ifPicked(none, none));
    }

    /** 13: "4: the imbalance if it was at the window; 5: what its load can still grow by" */
    private static void drawer() {
        DrawerRing x = Rings.peaked(2, 20);
        x.set(0, 0);
        for (int d = 0; d < 12; d++) {
            boolean isLoaded = d == 3 || d == 5 || d == 7 || d == 10 || d == 0;
            int[] due = {isLoaded ? 20 : 0, isLoaded ? 1 : 0, d, 0, d == 2 || d == 8 ? 20 : 0, isLoaded ? 30 : 50};
            for (int what = 0; what <= 5; what++) {
                Due.is("13: drawer(" + d + ", " + what + ")", x.drawer(d, what), due[what]);
            }
        }
        x.set(1, 20);
        Due.is("13: nothing more", x.drawer(3, 5), 0);
        Due.is("13: all of it", x.drawer(4, 5), 20);
        x.set(1, 100);
        Due.is("13: up to the greatest", x.drawer(3, 5), 80);
    }

    /** 14: "NONE if it is gone"; "if this number was not given so far" */
    private static void item() {
        DrawerRing x = new DrawerRing();
        Due.noIndex("14: none is given", x, () -> x.item(0, 0));
        x.put(11, 20);
        x.put(0, 1);
        Due.is("14: its drawer", x.item(0, 1), 11);
        Due.is("14: its weight", x.item(0, 0), 20);
        Due.is("14: the other one's drawer, 0", x.item(1, 1), 0);
        Due.noIndex("14: the next one", x, () -> x.item(2, 1));
        x.pick(1);
        Due.is("14: gone", x.item(1, 0), -1);
        Due.is("14: gone", x.item(1, 1), -1);
        Due.noArgument("14: gone, and what is 2", x, () -> x.item(1, 2));
        x.undo();
        Due.is("14: there again", x.item(1, 0), 1);
        x.undo();
        Due.noIndex("14: not given, behind undo", x, () -> x.item(1, 0));
        for (int none : Rings.FAR) {
            Due.noIndex("14: " + none, x, () -> x.item(none, 0));
        }
    }

    /** 15: each number where it is least and greatest. */
    private static void count() {
        DrawerRing x = Rings.wide();
        for (int d = 7; d < 12; d++) {
            Rings.load(x, d, d == 11 ? 20 : 70);
        }
        Due.is("15: the imbalance, all on the left", x.count(3), 300);
        Due.is("15: the greatest one", x.count(4), 300);
        Due.is("15: the load of all", x.count(2), 300);
        Due.is("15: the imbalance with 6 at the window", x.drawer(6, 4), 300);
        Due.is("15: at most 6 saved states", x.count(10), 6);
        Due.is("15: six steps", x.turn(6), 6);
        Due.is("15: the imbalance, all on the right", x.count(3), 300);
        Due.is("15: none of the six steps goes down", x.count(5) * 10 + x.count(6), 60);
        x.turn(1);
        Due.is("15: five steps go down", x.count(5) * 10 + x.count(6), 115);
        x.turn(1);
        Due.is("15: no step", x.count(5) * 10 + x.count(6), 115);
        Due.is("15: no turn the other way", x.count(7), 0);
    }

    /** 18: "99 if the turn would be refused"; without a step it never would be. */
    private static void way() {
        DrawerRing x = new DrawerRing();
        for (int d = 1; d < 6; d++) {
            x.put(d, 10);
        }
        x.set(0, 0);
        for (int d = 0; d < 12; d++) {
            Due.is("18: way to " + d, x.way(d), d == 0 ? 0 : 99);
        }
        x.set(0, 300);
        Due.is("18: six steps up", x.way(6), 6);
        Due.is("18: five steps down", x.way(7), -5);
    }

    /** 19: "Returns the imbalance, whether the item could be put there or not." */
    private static void ifPut() {
        DrawerRing x = Rings.wide();
        for (int k = 0; k < 39; k++) {
            x.put(k % 12 == 0 ? 6 : k % 12, 1);
        }
        x.put(0, 20);
        x.set(1, 20);
        x.set(0, 0);
        for (int d = 0; d < 12; d++) {
            x.jam(d, true);
        }
        // 13 more in 0 than in 6, 1 more in 1 and 2 than across.
        Due.is("19: the greatest imbalance", x.count(4), 15);
        Due.noState("19: it could not be put there", x, () -> x.put(0, 20));
        Due.is("19: as much more as it weighs", x.ifPut(0, 20), 35);
        Due.is("19: as much less, across", x.ifPut(6, 1), 14);
        Due.is("19: an item at the window", new DrawerRing().ifPut(0, 1), 1);
        Due.is("19: the heaviest one", new DrawerRing().ifPut(11, 20), 20);
    }

    /** 20: "the drawers that are not jammed, and of which the load would not be above setting 1"; "NONE if there is none" */
    private static void bestOfThose() {
        DrawerRing x = new DrawerRing();
        x.set(1, 20);
        x.set(0, 300);
        for (int d = 0; d < 6; d++) {
            Due.is("20: 0 and 6 are even, as are 1 and 7 ..", x.bestDrawer(20), d);
            x.put(d, 20);
            Due.is("20: not the one that is full, but the one across", x.bestDrawer(20), d + 6);
            x.put(d + 6, 20);
        }
        Due.is("20: none, as all are full", x.bestDrawer(1), -1);
        x.set(1, 21);
        Due.is("20: all, to the limit", x.bestDrawer(1), 0);
        Due.is("20: none, above it", x.bestDrawer(2), -1);
        x.jam(0, true);
        Due.is("20: not the jammed one", x.bestDrawer(1), 1);
        for (int d = 1; d < 11; d++) {
            x.jam(d, true);
        }
        Due.is("20: the only one that is not jammed", x.bestDrawer(1), 11);
        x.jam(11, true);
        Due.is("20: none, as all are jammed", x.bestDrawer(1), -1);
        DrawerRing y = Rings.wide();
        for (int k = 0; k < 40; k++) {
            y.put(k % 10 + 1, 1);
        }
        y.set(0, 0);
        Due.is("20: with 40 items, whatever setting 0 is", y.bestDrawer(20), 0);
    }

    /** 20: "the one with the least ifPut, of several the one with the least load, of these the lowest" */
    private static void bestOfSeveral() {
        DrawerRing x = new DrawerRing();
        x.put(4, 5);
        Due.is("20: across from it", x.bestDrawer(5), 10);
        Due.is("20: ifPut there", x.ifPut(10, 5), 0);
        x.put(10, 5);
        Due.is("20: of even ones the lowest of the least loads", x.bestDrawer(5), 0);
        x.put(0, 1);
        x.put(6, 1);
        Due.is("20: then the next one", x.bestDrawer(5), 1);
        for (int d = 1; d < 12; d++) {
            if (d % 6 != 0 && d != 4 && d != 10) {
                x.put(d, 2);
            }
        }
        Due.is("20: the least load is that of 0 and 6", x.bestDrawer(5), 0);
        x.jam(0, true);
        Due.is("20: and 6, if 0 is jammed", x.bestDrawer(5), 6);
        DrawerRing y = new DrawerRing();
        y.put(0, 20);
        y.put(6, 10);
        Due.is("20: ifPut is ahead of the load", y.bestDrawer(5), 6);
        Due.is("20: ifPut there", y.ifPut(6, 5), 5);
        Due.is("20: ifPut of one that is empty", y.ifPut(7, 5), 10);
    }

    /** 21: "NONE if the buffer is not a complete batch as a text"; 0 if nothing would be picked. */
    private static void ifPicked() {
        DrawerRing x = new DrawerRing();
        x.put(3, 7);
        x.turn(11);
        for (int rule = 0; rule <= 2; rule++) {
            Due.retype(x, "1,");
            for (int what = 0; what <= 3; what++) {
                Due.is("21: incomplete", x.ifPicked(rule, what), -1);
            }
            x.append('2');
            Rings.brings("21: complete, none of them there", x, "1,2", rule, 0, 0, 11, 7);
            Rings.brings("21: the only one", x, "0", rule, 1, 4, 3, 0);
            Due.type(x, "0");
            x.jam(3, true);
            x.set(2, 2 - rule);
            Due.is("21: jammed", x.ifPicked(rule, 0), 0);
            Due.is("21: the window stays", x.ifPicked(rule, 2), 11);
            Due.is("21: the greatest imbalance stays", x.ifPicked(rule, 3), 7);
            x.undo();
            x.undo();
            Due.is("21: the buffer stays", x.clearBuffer(), 1);
        }
        Due.is("21: the steps so far are not those of the batch", x.count(5), 1);
    }

    /** 22: "divided by the greatest; 1.0 if that is 0" */
    private static void evenness() {
        DrawerRing x = Rings.wide();
        Due.is("22: no load", x.evenness(), 1.0);
        x.put(5, 1);
        Due.is("22: the least load that is not 0", x.evenness(), 0.0);
        x.undo();
        Rings.load(x, 5, 99);
        Due.is("22: one drawer has a load", x.evenness(), 0.0);
        for (int d = 0; d < 11; d++) {
            if (d != 5) {
                x.put(d, 20);
            }
        }
        Due.is("22: all but one have one", x.evenness(), 0.0);
        x.put(11, 1);
        Due.is("22: the least by the greatest", x.evenness(), 1.0 / 99.0);
        x.put(11, 19);
        Due.is("22: 20 by 99", x.evenness(), 20.0 / 99.0);
        x.put(5, 1);
        Due.is("22: 20 by 100", x.evenness(), 0.2);
        DrawerRing even = Rings.wide();
        for (int d = 0; d < 12; d++) {
            even.put(d, 13);
        }
        Due.is("22: all have as much", even.evenness(), 1.0);
        even.pick(0);
        Due.is("22: the first one has none", even.evenness(), 0.0);
    }

    private static DrawerRing filled(int[] order) {
        DrawerRing x = new DrawerRing();
        for (int drawer : order) {
            x.put(drawer, 5);
        }
        return x;
    }

    /** 23: each part of the state changes the hash; the same state by another run of calls has the same. */
    private static void digest() {
        DrawerRing x = filled(new int[] {1, 7, 2, 8, 0, 6});
        long base = x.digest();
        Due.is("23: the same run", filled(new int[] {1, 7, 2, 8, 0, 6}).digest(), base);
        Due.isTrue("23: items in another order", filled(new int[] {7, 1, 2, 8, 0, 6}).digest() != base);
        Due.isTrue("23: a new object", new DrawerRing().digest() != base);
        Due.is("23: a state that is dropped does not count", x.put(3, 5), 6);
        x.undo();
        Due.is("23: fewer saved states", x.count(10), 5);
        Due.isTrue("23: they count", x.digest() != base);
        x.jam(4, true);
        Due.isTrue("23: a jam counts", x.digest() != base);
        x.undo();
        x.set(2, 0);
        Due.is("23: as many saved states", x.digest(), base);
        Due.type(x, "a");
        long withText = x.digest();
        Due.isTrue("23: a text counts", withText != base);
        Due.retype(x, "b");
        Due.is("23: the last character", x.digest() - withText, 1);
        Due.retype(x, "");
        Due.is("23: an empty text", x.digest(), base);
    }

    /** 23: "the bits of evenness (as Double.doubleToLongBits)": 0, each share to 60 by 100, and 1. */
    private static void digestOfShares() {
        for (int least = 0; least <= 60; least++) {
            for (int greatest = Math.max(1, least); greatest <= 100; greatest++) {
                DrawerRing x = Rings.wide();
                for (int d = 0; d < 12; d++) {
                    Rings.load(x, d, d == 0 ? greatest : least);
                }
                Due.is("22: " + least + " by " + greatest, x.evenness(), (double) least / greatest);
                Due.is("23: " + least + " by " + greatest, x.digest(), Rings.digestByCalls(x, ""));
            }
        }
    }

    /** 23: "bestDrawer of 7", "ifPut of 5": not another weight. */
    private static void digestOfWeights() {
        int[][] due = {{6, -1, -1}, {6, 6, -1}, {6, 6, 6}};
        for (int most = 10; most <= 12; most++) {
            DrawerRing x = new DrawerRing();
            x.set(0, 300);
            x.set(1, most);
            x.put(0, 10);
            for (int d = 1; d < 12; d++) {
                x.put(d, d == 6 ? 4 : 5);
            }
            for (int k = 0; k < 3; k++) {
                Due.is("20: " + (6 + k) + " beside 4, up to " + most, x.bestDrawer(6 + k), due[most - 10][k]);
            }
            Due.is("23: up to " + most, x.digest(), Rings.digestByCalls(x, ""));
        }
    }

    private static DrawerRing withFortyItems() {
        DrawerRing x = Rings.wide();
        for (int k = 0; k < 40; k++) {
            x.put(k * 7 % 12, 1 + k % 20);
        }
        return x;
    }

    /** 23: 40 items, a buffer that is full, a batch of six, and setting 0 at the imbalance. */
    private static void digestOfFull() {
        for (String text : new String[] {"", "!~0123456789,0123456789,0123456789,0123456789,0123456789,!~,"}) {
            DrawerRing x = withFortyItems();
            Due.type(x, text);
            Due.is("23: " + text.length() + " characters", x.digest(), Rings.digestByCalls(x, text));
        }
        DrawerRing y = withFortyItems();
        y.set(0, y.count(3));
        y.pick(12);
        Due.type(y, "39,0,20,7,13,31");
        Due.is("23: a batch of six", y.digest(), Rings.digestByCalls(y, "39,0,20,7,13,31"));
    }

    public static void main(String[] args) {
        whats();
        drawer();
        item();
        count();
        way();
        ifPut();
        bestOfThose();
        bestOfSeveral();
        ifPicked();
        evenness();
        digest();
        digestOfShares();
        digestOfWeights();
        digestOfFull();
        Due.end();
    }
}
