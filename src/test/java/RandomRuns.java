import java.util.Random;
import java.util.TreeMap;

/** Promises 1 to 23: runs of mixed calls, each answered by the class and by the model. */
public final class RandomRuns {
    private static final String[] NAMES = {"put", "move", "pick", "turn", "jam", "set", "append", "clearBuffer",
        "firstError", "pickAll", "undo", "drawer", "item", "count", "setting", "refusal", "way", "ifPut",
        "bestDrawer", "ifPicked", "evenness", "digest"};
    private static final int[] OFTEN = {14, 6, 5, 6, 3, 5, 4, 1, 2, 8, 4, 3, 2, 3, 1, 3, 3, 2, 3, 8, 1, 3};

    private RandomRuns() {
    }

    private static long real(DrawerRing x, String name, int a, int b) {
        switch (name) {
            case "put": return x.put(a, b);
            case "move": return x.move(a, b);
            case "pick": return x.pick(a);
            case "turn": return x.turn(a);
            case "jam": return x.jam(a, b == 1);
            case "set": return x.set(a, b);
            case "append": return x.append(a);
            case "clearBuffer": return x.clearBuffer();
            case "firstError": return x.firstError();
            case "pickAll": return x.pickAll();
            case "undo": return x.undo();
            case "drawer": return x.drawer(a, b);
            case "item": return x.item(a, b);
            case "count": return x.count(a);
            case "setting": return x.setting(a);
            case "refusal": return x.refusal(a);
            case "way": return x.way(a);
            case "ifPut": return x.ifPut(a, b);
            case "bestDrawer": return x.bestDrawer(a);
            case "ifPicked": return x.ifPicked(a, b);
            case "evenness": return Double.doubleToRawLongBits(x.evenness());
            default: return x.digest();
        }
    }

    private static long model(Model x, String name, int a, int b) {
        switch (name) {
            case "put": return x.put(a, b);
            case "move": return x.move(a, b);
            case "pick": return x.pick(a);
            case "turn": return x.turn(a);
            case "jam": return x.jam(a, b == 1);
            case "set": return x.set(a, b);
            case "append": return x.append(a);
            case "clearBuffer": return x.clearBuffer();
            case "firstError": return x.firstError();
            case "pickAll": return x.pickAll();
            case "undo": return x.undo();
            case "drawer": return x.drawer(a, b);
            case "item": return x.item(a, b);
            case "count": return x.count(a);
            case "setting": return x.setting(a);
            case "refusal": return x.refusal(a);
            case "way": return x.way(a);
            case "ifPut": return x.ifPut(a, b);
            case "bestDrawer": return x.bestDrawer(a);
            case "ifPicked": return x.ifPicked(a, b);
            case "evenness": return Double.doubleToRawLongBits(x.evenness());
            default: return x.digest();
        }
    }

    private static String told(Due.Call call) {
        try {
            return String.valueOf(call.answer());
        } catch (RuntimeException e) {
            return e.getClass().getSimpleName();
        }
    }

    /** Mostly a fine one, now and then one that is not. */
    private static int near(Random chance, int least, int most) {
        int way = chance.nextInt(40);
        if (way == 0) {
            return least - 1;
        }
        if (way == 1) {
            return most + 1;
        }
        if (way == 2) {
            int[] far = {Integer.MIN_VALUE, Integer.MAX_VALUE, -7, 1000000};
            return far[chance.nextInt(far.length)];
        }
        return least + chance.nextInt(most - least + 1);
    }

    private static String batch(Random chance, Model m, int given) {
        StringBuilder text = new StringBuilder();
        int size = 1 + chance.nextInt(6);
        for (int k = 0; k < size; k++) {
            int item = chance.nextInt(Math.max(1, given + (chance.nextInt(12) == 0 ? 3 : 0)));
            // A batch of items that are there is picked further.
            for (int again = 0; again < 30 && m.refusal(item) != 0; again++) {
                item = chance.nextInt(Math.max(1, given));
            }
            text.append(k == 0 ? "" : ",").append(item);
        }
        return text.toString();
    }

    private static boolean same(long run, String name, int a, int b, DrawerRing x, Model m) {
        String got = told(() -> real(x, name, a, b));
        String want = told(() -> model(m, name, a, b));
        if (!got.equals(want)) {
            Due.report("run " + run + ": " + name + "(" + a + ", " + b + ") answered " + got + ", due is " + want);
            return false;
        }
        return true;
    }

    private static int first(Random chance, String name, int given, int style) {
        switch (name) {
            case "put": case "turn": case "jam": case "drawer": case "way": case "ifPut":
                return near(chance, 0, 11);
            case "move": case "pick": case "item": case "refusal":
                return near(chance, 0, Math.max(0, given - 1));
            case "set": case "setting": case "ifPicked":
                return style == 1 && chance.nextInt(2) == 0 ? 0 : near(chance, 0, 2);
            case "append":
                return chance.nextInt(3) == 0 ? near(chance, 33, 126) : "0123456789,".charAt(chance.nextInt(11));
            case "count": return near(chance, 0, 10);
            case "bestDrawer": return near(chance, 1, 20);
            default: return 0;
        }
    }

    private static int second(Random chance, String name, int first, Model m) {
        switch (name) {
            case "put": case "ifPut": return near(chance, 1, 20);
            case "move": return near(chance, 0, 11);
            case "jam": return chance.nextInt(4) == 0 ? 1 : 0;
            case "drawer": return near(chance, 0, 5);
            case "item": return near(chance, 0, 1);
            case "ifPicked": return near(chance, 0, 3);
            case "set":
                if (first == 0) {
                    // At or just below an imbalance that occurs, a way is shut at one step or another.
                    return chance.nextInt(6) == 0 ? near(chance, 0, 300)
                            : Math.max(0, m.drawer(chance.nextInt(12), 4) - chance.nextInt(2));
                }
                return first == 1 ? near(chance, 10, 100) : near(chance, 0, 2);
            default: return 0;
        }
    }

    /** Makes a ring with many items, which seldom comes about by chance. */
    private static int fill(long run, Random chance, DrawerRing x, Model m) {
        same(run, "set", 0, 300, x, m);
        same(run, "set", 1, 100, x, m);
        for (int k = 0; k < 42; k++) {
            same(run, "put", chance.nextInt(12), 1 + chance.nextInt(20), x, m);
        }
        return 44;
    }

    private static void run(long number, TreeMap<String, Integer> met) {
        Random chance = new Random(number);
        DrawerRing x = new DrawerRing();
        Model m = new Model();
        int style = chance.nextInt(3);
        int all = 0;
        for (int often : OFTEN) {
            all += often;
        }
        int calls = style == 2 ? fill(number, chance, x, m) : 0;
        // A turn of the loop may take some 27 calls, and an object is used for 512.
        while (calls < 480) {
            int left = chance.nextInt(all);
            int op = 0;
            while (left >= OFTEN[op]) {
                left -= OFTEN[op];
                op++;
            }
            String name = NAMES[op];
            int given = 0;
            while (isGiven(m, given)) {
                given++;
            }
            boolean isOfBatch = name.equals("pickAll") || name.equals("ifPicked") || name.equals("digest");
            if (isOfBatch && chance.nextInt(5) != 0) {
                if (!same(number, "clearBuffer", 0, 0, x, m)) {
                    return;
                }
                calls++;
                for (char c : batch(chance, m, given).toCharArray()) {
                    same(number, "append", c, 0, x, m);
                    calls++;
                }
            }
            int a = first(chance, name, given, style);
            int b = second(chance, name, a, m);
            if (!same(number, name, a, b, x, m)) {
                return;
            }
            calls++;
            if (calls % 8 == 0) {
                if (!same(number, "digest", 0, 0, x, m)) {
                    return;
                }
                calls++;
            }
        }
        m.met.forEach((what, times) -> met.merge(what, times, Integer::sum));
    }

    private static boolean isGiven(Model m, int item) {
        try {
            m.item(item, 0);
            return true;
        } catch (IndexOutOfBoundsException e) {
            return false;
        }
    }

    public static void main(String[] args) {
        int runs = args.length > 0 ? Integer.parseInt(args[0]) : 60;
        TreeMap<String, Integer> met = new TreeMap<>();
        for (long number = 1; number <= runs && Due.wrongSoFar() < 10; number++) {
            run(number, met);
        }
        // No turn goes the longer way: the imbalance with a drawer at the window is that with the
        // opposite one there, so six steps of a way meet them all, and no longer way is more open.
        String[] rare = {"put: load", "put: imbalance", "move: jammed", "move: load", "move: imbalance",
            "move: imbalance, same drawer", "pick: refused 2", "pick: refused 3", "turn: refused",
            "put: 40 items", "set: load", "undo: none", "a saved state is dropped", "fewest: none", "fewest: some",
            "nearest: one passed over", "nearest: refused behind 1", "pickAll by 1: 4", "pickAll by 2: 4"};
        for (String what : rare) {
            Due.isTrue("the runs meet '" + what + "'", met.containsKey(what));
        }
        if (args.length > 0) {
            System.out.println(met);
        }
        Due.end();
    }
}
