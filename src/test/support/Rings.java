/** Rings and checks that more than one test of the edges needs. */
public final class Rings {
    /** Numbers that are far from each range of the document, some of them fine if they lost their high bits. */
    public static final int[] FAR = {Integer.MIN_VALUE, -65536, -4096, -256, 4096, 65536 + 48, Integer.MAX_VALUE};

    private Rings() {
    }

    /** A ring in which each item is fine anywhere. */
    public static DrawerRing wide() {
        DrawerRing x = new DrawerRing();
        x.set(0, 300);
        x.set(1, 100);
        return x;
    }

    /** The imbalance is h with the drawer peak or its opposite one at the window, and 0 with another one. */
    public static DrawerRing peaked(int peak, int h) {
        DrawerRing x = new DrawerRing();
        x.set(0, 300);
        for (int ahead : new int[] {1, 3, 5, 8, 10}) {
            x.put((peak + ahead) % 12, h);
        }
        return x;
    }

    /** Fills a drawer, so that it has the load. */
    public static void load(DrawerRing x, int drawer, int load) {
        for (int left = load; left > 0; left -= 20) {
            x.put(drawer, Math.min(20, left));
        }
    }

    /**
     * What a batch would bring by a rule, and what it does bring: items, steps, the window then, the
     * greatest imbalance then. The ring is as it was behind it, and the buffer is empty.
     */
    public static void brings(String what, DrawerRing x, String batch, int rule, int... due) {
        Due.retype(x, batch);
        for (int k = 0; k < 4; k++) {
            Due.is(what + ": ifPicked(" + rule + ", " + k + ") of " + batch, x.ifPicked(rule, k), due[k]);
        }
        int stepsBefore = x.count(5);
        int pickedBefore = x.count(8);
        x.set(2, rule);
        Due.is(what + ": pickAll by " + rule + " of " + batch, x.pickAll(), due[0]);
        Due.is(what + ": picked so far", x.count(8) - pickedBefore, due[0]);
        Due.is(what + ": steps so far", x.count(5) - stepsBefore, due[1]);
        Due.is(what + ": the window", x.count(0), due[2]);
        Due.is(what + ": the greatest imbalance", x.count(4), due[3]);
        x.undo();
        x.undo();
        Due.is(what + ": undone", x.count(5) - stepsBefore, 0);
    }

    private static long chained(long hash, long... values) {
        for (long v : values) {
            hash = 31 * hash + v;
        }
        return hash;
    }

    /** The digest as promise 23 lists it, of what the other calls answer; the buffer is to have the text. */
    public static long digestByCalls(DrawerRing x, String text) {
        long hash = 2963;
        for (int what = 0; what <= 10; what++) {
            hash = chained(hash, x.count(what));
        }
        hash = chained(hash, x.setting(0), x.setting(1), x.setting(2));
        for (int d = 0; d < 12; d++) {
            for (int what = 0; what <= 5; what++) {
                hash = chained(hash, x.drawer(d, what));
            }
            hash = chained(hash, x.way(d), x.ifPut(d, 5));
        }
        int left = x.count(1);
        for (int item = 0; left > 0; item++) {
            if (x.item(item, 0) != -1) {
                hash = chained(hash, item, x.item(item, 0), x.item(item, 1), x.refusal(item));
                left--;
            }
        }
        hash = chained(hash, x.bestDrawer(7));
        for (int rule = 0; rule <= 2; rule++) {
            for (int what = 0; what <= 3; what++) {
                hash = chained(hash, x.ifPicked(rule, what));
            }
        }
        hash = chained(hash, Double.doubleToLongBits(x.evenness()), text.length());
        for (char c : text.toCharArray()) {
            hash = chained(hash, c);
        }
        return hash;
    }
}
