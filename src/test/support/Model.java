import java.util.ArrayDeque;
import java.util.ArrayList;
import java.util.HashSet;
import java.util.List;
import java.util.Map;
import java.util.TreeMap;

/**
 * The document once more, told as slowly and as plainly as can be: nothing is kept that can be
 * worked out, each turn is gone step by step, and the orders of a batch are all tried out.
 */
public final class Model {
    /** All that undo brings back. */
    private static final class Ring {
        int window = 0;
        int given = 0;
        TreeMap<Integer, int[]> items = new TreeMap<>();
        boolean[] jammed = new boolean[12];
        int[] settings = {60, 50, 0};
        int steps = 0;
        int down = 0;
        int longTurns = 0;
        int picked = 0;

        Ring copy() {
            Ring ring = new Ring();
            ring.window = window;
            ring.given = given;
            for (Map.Entry<Integer, int[]> e : items.entrySet()) {
                ring.items.put(e.getKey(), e.getValue().clone());
            }
            ring.jammed = jammed.clone();
            ring.settings = settings.clone();
            ring.steps = steps;
            ring.down = down;
            ring.longTurns = longTurns;
            ring.picked = picked;
            return ring;
        }

        int load(int drawer) {
            int load = 0;
            for (int[] item : items.values()) {
                load += item[1] == drawer ? item[0] : 0;
            }
            return load;
        }

        int imbalance(int atWindow) {
            int right = 0;
            int left = 0;
            for (int[] item : items.values()) {
                int place = (item[1] - atWindow + 12) % 12;
                right += place >= 1 && place <= 5 ? item[0] : 0;
                left += place >= 7 && place <= 11 ? item[0] : 0;
            }
            return Math.abs(right - left);
        }

        int worst() {
            int worst = 0;
            for (int d = 0; d < 12; d++) {
                worst = Math.max(worst, imbalance(d));
            }
            return worst;
        }

        boolean open(int steps, int direction) {
            int w = window;
            for (int k = 0; k < steps; k++) {
                w = (w + direction + 12) % 12;
                if (imbalance(w) > settings[0]) {
                    return false;
                }
            }
            return true;
        }

        int way(int drawer) {
            int s = 0;
            while ((window + s) % 12 != drawer) {
                s++;
            }
            if (s == 0) {
                return 0;
            }
            boolean up = open(s, 1);
            boolean downwards = open(12 - s, -1);
            if (s <= 6) {
                return up ? s : downwards ? s - 12 : 99;
            }
            return downwards ? s - 12 : up ? s : 99;
        }

        int turn(int drawer) {
            int way = way(drawer);
            int s = (drawer - window + 12) % 12;
            boolean isShorterUp = s <= 6;
            if (way != 0 && isShorterUp != way > 0) {
                longTurns++;
            }
            steps += Math.abs(way);
            down += way < 0 ? -way : 0;
            window = drawer;
            return way;
        }

        int refusal(int item) {
            int[] found = items.get(item);
            if (found == null) {
                return 1;
            }
            return jammed[found[1]] ? 2 : way(found[1]) == 99 ? 3 : 0;
        }

        int pick(int item) {
            int way = turn(items.get(item)[1]);
            items.remove(item);
            picked++;
            return Math.abs(way);
        }
    }

    private Ring now = new Ring();
    private final ArrayDeque<Ring> saved = new ArrayDeque<>();
    private String buffer = "";
    /** What the runs have met: told, so that a test can see that they meet what is rare. */
    public final TreeMap<String, Integer> met = new TreeMap<>();

    private void meet(String what) {
        met.merge(what, 1, Integer::sum);
    }

    private void save() {
        saved.addLast(now.copy());
        if (saved.size() > 6) {
            saved.removeFirst();
            meet("a saved state is dropped");
        }
    }

    private static void index(boolean isFine) {
        if (!isFine) {
            throw new IndexOutOfBoundsException();
        }
    }

    private static void argument(boolean isFine) {
        if (!isFine) {
            throw new IllegalArgumentException();
        }
    }

    private void state(String what, boolean isFine) {
        if (!isFine) {
            meet(what);
            throw new IllegalStateException();
        }
    }

    private static boolean within(int value, int least, int most) {
        return value >= least && value <= most;
    }

    public int put(int drawer, int weight) {
        index(within(drawer, 0, 11));
        argument(within(weight, 1, 20));
        state("put: 40 items", now.items.size() < 40);
        state("put: load", now.load(drawer) + weight <= now.settings[1]);
        Ring then = now.copy();
        then.items.put(then.given, new int[] {weight, drawer});
        then.given++;
        state("put: imbalance", then.imbalance(then.window) <= then.settings[0]);
        save();
        now = then;
        return now.given - 1;
    }

    public int move(int item, int drawer) {
        index(now.items.containsKey(item) && within(drawer, 0, 11));
        int from = now.items.get(item)[1];
        state("move: jammed", !now.jammed[from] && !now.jammed[drawer]);
        Ring then = now.copy();
        then.items.get(item)[1] = drawer;
        state("move: load", then.load(drawer) <= now.settings[1]);
        state(from == drawer ? "move: imbalance, same drawer" : "move: imbalance",
                then.imbalance(then.window) <= now.settings[0]);
        save();
        now = then;
        return from;
    }

    public int pick(int item) {
        index(now.items.containsKey(item));
        state("pick: refused " + now.refusal(item), now.refusal(item) == 0);
        save();
        return now.pick(item);
    }

    public int turn(int drawer) {
        index(within(drawer, 0, 11));
        state("turn: refused", now.way(drawer) != 99);
        save();
        int way = now.turn(drawer);
        meet("turn: " + way);
        return way;
    }

    public int jam(int drawer, boolean isJammed) {
        index(within(drawer, 0, 11));
        save();
        boolean was = now.jammed[drawer];
        now.jammed[drawer] = isJammed;
        return was ? 1 : 0;
    }

    public int set(int setting, int value) {
        index(within(setting, 0, 2));
        argument(setting == 0 ? within(value, 0, 300) : setting == 1 ? within(value, 10, 100) : within(value, 0, 2));
        for (int d = 0; d < 12; d++) {
            state("set: load", setting != 1 || now.load(d) <= value);
        }
        save();
        int was = now.settings[setting];
        now.settings[setting] = value;
        return was;
    }

    public int append(int code) {
        argument(within(code, 33, 126));
        state("append: full", buffer.length() < 60);
        buffer += (char) code;
        return buffer.length();
    }

    public int clearBuffer() {
        int was = buffer.length();
        buffer = "";
        return was;
    }

    static boolean isBatch(String text) {
        String number = "(0|[1-9][0-9]{0,2})";
        if (!text.matches(number + "(," + number + "){0,5}")) {
            return false;
        }
        String[] told = text.split(",");
        return new HashSet<>(List.of(told)).size() == told.length;
    }

    /** A batch begins with a text if up to three more digits make it one. */
    static boolean beginsBatch(String text) {
        if (isBatch(text)) {
            return true;
        }
        for (int digits = 1, end = 10; digits <= 3; digits++, end *= 10) {
            for (int k = 0; k < end; k++) {
                if (isBatch(text + String.valueOf(end + k).substring(1))) {
                    return true;
                }
            }
        }
        return false;
    }

    public int firstError() {
        for (int k = 0; k < buffer.length(); k++) {
            if (!beginsBatch(buffer.substring(0, k + 1))) {
                return k;
            }
        }
        return buffer.length();
    }

    private List<Integer> told() {
        List<Integer> told = new ArrayList<>();
        for (String number : buffer.split(",")) {
            told.add(Integer.parseInt(number));
        }
        return told;
    }

    /** All orders of the places from 0, the one that comes first first. */
    private static void orders(List<Integer> begun, int size, List<List<Integer>> all) {
        if (begun.size() == size) {
            all.add(new ArrayList<>(begun));
        }
        for (int k = 0; k < size; k++) {
            if (!begun.contains(k)) {
                begun.add(k);
                orders(begun, size, all);
                begun.remove(begun.size() - 1);
            }
        }
    }

    private static int pickInRow(Ring ring, List<Integer> row) {
        for (int k = 0; k < row.size(); k++) {
            if (ring.refusal(row.get(k)) != 0) {
                return k;
            }
            ring.pick(row.get(k));
        }
        return row.size();
    }

    private List<Integer> best(Ring ring, List<Integer> told) {
        List<List<Integer>> all = new ArrayList<>();
        orders(new ArrayList<>(), told.size(), all);
        List<Integer> best = null;
        int fewest = Integer.MAX_VALUE;
        int fine = 0;
        for (List<Integer> places : all) {
            List<Integer> row = new ArrayList<>();
            for (int place : places) {
                row.add(told.get(place));
            }
            Ring then = ring.copy();
            if (pickInRow(then, row) == row.size()) {
                fine++;
                if (then.steps - ring.steps < fewest) {
                    fewest = then.steps - ring.steps;
                    best = row;
                }
            }
        }
        meet(fine == 0 ? "fewest: none" : fine == all.size() ? "fewest: any" : "fewest: some");
        return best;
    }

    private int pickBatch(Ring ring, List<Integer> told, int rule) {
        if (rule == 0) {
            return pickInRow(ring, told);
        }
        if (rule == 2) {
            List<Integer> best = best(ring, told);
            return pickInRow(ring, best == null ? told : best);
        }
        List<Integer> left = new ArrayList<>(told);
        while (!left.isEmpty()) {
            Integer nearest = null;
            int fewest = Integer.MAX_VALUE;
            for (Integer item : left) {
                if (ring.refusal(item) == 0 && Math.abs(ring.way(ring.items.get(item)[1])) < fewest) {
                    nearest = item;
                    fewest = Math.abs(ring.way(ring.items.get(item)[1]));
                }
            }
            if (nearest == null) {
                meet("nearest: refused behind " + (told.size() - left.size()));
                break;
            }
            if (!nearest.equals(left.get(0)) && ring.refusal(left.get(0)) != 0) {
                meet("nearest: one passed over");
            }
            ring.pick(nearest);
            left.remove(nearest);
        }
        return told.size() - left.size();
    }

    public int pickAll() {
        argument(isBatch(buffer));
        save();
        int picked = pickBatch(now, told(), now.settings[2]);
        meet("pickAll by " + now.settings[2] + ": " + picked);
        buffer = "";
        return picked;
    }

    public int undo() {
        state("undo: none", !saved.isEmpty());
        now = saved.removeLast();
        return saved.size();
    }

    public int drawer(int drawer, int what) {
        index(within(drawer, 0, 11));
        argument(within(what, 0, 5));
        int items = 0;
        for (int[] item : now.items.values()) {
            items += item[1] == drawer ? 1 : 0;
        }
        return new int[] {now.load(drawer), items, (drawer + 12 - now.window) % 12, now.jammed[drawer] ? 1 : 0,
            now.imbalance(drawer), now.settings[1] - now.load(drawer)}[what];
    }

    public int item(int item, int what) {
        index(within(item, 0, now.given - 1));
        argument(within(what, 0, 1));
        return now.items.containsKey(item) ? now.items.get(item)[what] : -1;
    }

    public int count(int what) {
        argument(within(what, 0, 10));
        int load = 0;
        int jams = 0;
        for (int d = 0; d < 12; d++) {
            load += now.load(d);
            jams += now.jammed[d] ? 1 : 0;
        }
        return new int[] {now.window, now.items.size(), load, now.imbalance(now.window), now.worst(), now.steps,
            now.down, now.longTurns, now.picked, jams, saved.size()}[what];
    }

    public int setting(int setting) {
        index(within(setting, 0, 2));
        return now.settings[setting];
    }

    public int refusal(int item) {
        return now.refusal(item);
    }

    public int way(int drawer) {
        index(within(drawer, 0, 11));
        return now.way(drawer);
    }

    public int ifPut(int drawer, int weight) {
        index(within(drawer, 0, 11));
        argument(within(weight, 1, 20));
        Ring then = now.copy();
        then.items.put(then.given, new int[] {weight, drawer});
        return then.worst();
    }

    public int bestDrawer(int weight) {
        argument(within(weight, 1, 20));
        int best = -1;
        for (int d = 11; d >= 0; d--) {
            if (now.jammed[d] || now.load(d) + weight > now.settings[1]) {
                continue;
            }
            if (best == -1 || ifPut(d, weight) < ifPut(best, weight)
                    || ifPut(d, weight) == ifPut(best, weight) && now.load(d) <= now.load(best)) {
                best = d;
            }
        }
        return best;
    }

    public int ifPicked(int rule, int what) {
        argument(within(rule, 0, 2) && within(what, 0, 3));
        if (!isBatch(buffer)) {
            return -1;
        }
        Ring then = now.copy();
        int picked = pickBatch(then, told(), rule);
        return new int[] {picked, then.steps - now.steps, then.window, then.worst()}[what];
    }

    public double evenness() {
        int least = Integer.MAX_VALUE;
        int greatest = 0;
        for (int d = 0; d < 12; d++) {
            least = Math.min(least, now.load(d));
            greatest = Math.max(greatest, now.load(d));
        }
        return greatest == 0 ? 1.0 : (double) least / greatest;
    }

    public long digest() {
        List<Long> list = new ArrayList<>();
        for (int k = 0; k <= 10; k++) {
            list.add((long) count(k));
        }
        for (int k = 0; k <= 2; k++) {
            list.add((long) setting(k));
        }
        for (int d = 0; d < 12; d++) {
            for (int k = 0; k <= 5; k++) {
                list.add((long) drawer(d, k));
            }
            list.add((long) way(d));
            list.add((long) ifPut(d, 5));
        }
        for (int item : now.items.keySet()) {
            list.add((long) item);
            list.add((long) item(item, 0));
            list.add((long) item(item, 1));
            list.add((long) refusal(item));
        }
        list.add((long) bestDrawer(7));
        for (int rule = 0; rule <= 2; rule++) {
            for (int k = 0; k <= 3; k++) {
                list.add((long) ifPicked(rule, k));
            }
        }
        list.add(Double.doubleToLongBits(evenness()));
        list.add((long) buffer.length());
        for (char c : buffer.toCharArray()) {
            list.add((long) c);
        }
        long hash = 2963;
        for (long v : list) {
            hash = 31 * hash + v;
        }
        return hash;
    }
}
