import java.util.ArrayList;
import java.util.List;

/** The edges of the heads 'Undo' and 'Exceptions' and of promise 12: each sentence that names one, as it is quoted. */
public final class EdgesOfUndo {
    private EdgesOfUndo() {
    }

    /** An undoable call behind which digest is told again by undo; due is what the call answers. */
    private static void saved(DrawerRing x, String what, int due, Due.Call call) {
        long before = x.digest();
        int states = x.count(10);
        Due.is(what, call.answer(), due);
        Due.is(what + ": a state is saved", x.count(10), states + 1);
        Due.is(what + ": undo", x.undo(), states);
        Due.is(what + ": all is as before", x.digest(), before);
    }

    /** Items 0 to 3 in the drawers 3, 9, 4 and 0; the drawer 5 is jammed; five states are saved. */
    private static DrawerRing used() {
        DrawerRing x = new DrawerRing();
        x.put(3, 10);
        x.put(9, 8);
        x.put(4, 1);
        x.put(0, 5);
        x.jam(5, true);
        return x;
    }

    /** "Each method that is marked "undoable" and does not throw an exception saves the state from before it" */
    private static void eachIsSaved() {
        DrawerRing x = used();
        saved(x, "put", 4, () -> x.put(7, 3));
        saved(x, "move", 3, () -> x.move(0, 8));
        saved(x, "pick", 3, () -> x.pick(1));
        saved(x, "turn", -3, () -> x.turn(9));
        saved(x, "jam", 0, () -> jammed(x, 2, true));
        saved(x, "free", 1, () -> jammed(x, 5, false));
        saved(x, "set 0", 60, () -> x.set(0, 20));
        saved(x, "set 1", 50, () -> x.set(1, 10));
        saved(x, "set 2", 0, () -> x.set(2, 2));
    }

    private static int jammed(DrawerRing x, int drawer, boolean isJammed) {
        return x.jam(drawer, isJammed);
    }

    /** "(also if it changes nothing)" */
    private static void alsoIfNothingChanges() {
        DrawerRing x = used();
        saved(x, "move into its own drawer", 3, () -> x.move(0, 3));
        saved(x, "turn without a step", 0, () -> x.turn(0));
        saved(x, "jam a jammed drawer", 1, () -> jammed(x, 5, true));
        saved(x, "free a free drawer", 0, () -> jammed(x, 4, false));
        saved(x, "set 0 to what it is", 60, () -> x.set(0, 60));
        saved(x, "set 1 to what it is", 50, () -> x.set(1, 50));
        saved(x, "set 2 to what it is", 0, () -> x.set(2, 0));
        Due.type(x, "77");
        Due.is("pickAll, of which nothing is picked", x.pickAll(), 0);
        Due.is("a state is saved", x.count(10), 6);
    }

    /** What is not marked "undoable" saves nothing; a call that throws saves nothing. */
    private static void othersSaveNothing() {
        DrawerRing x = used();
        int states = x.count(10);
        x.append('7');
        x.clearBuffer();
        x.append('7');
        x.firstError();
        x.drawer(0, 0);
        x.item(0, 0);
        x.count(0);
        x.setting(0);
        x.refusal(0);
        x.way(11);
        x.ifPut(0, 1);
        x.bestDrawer(1);
        x.ifPicked(2, 3);
        x.evenness();
        x.digest();
        Due.is("looks and texts save nothing", x.count(10), states);
        Due.is("undo is not saved", x.undo(), states - 1);
        Due.is("nor can it be undone", x.count(10), states - 1);
    }

    /** "all, also what is counted so far": the numbers, the counts, the settings, the jams, the window. */
    private static void allIsRestored() {
        DrawerRing x = new DrawerRing();
        x.put(10, 4);
        x.put(1, 3);
        long[] states = new long[5];
        states[0] = x.digest();
        x.pick(0);
        Due.is("steps, down, picked", x.count(5) * 100 + x.count(6) * 10 + x.count(8), 221);
        states[1] = x.digest();
        Due.is("a number", x.put(4, 2), 2);
        states[2] = x.digest();
        x.turn(4);
        Due.is("steps, down, picked", x.count(5) * 100 + x.count(6) * 10 + x.count(8), 821);
        x.undo();
        Due.is("the turn is undone", x.digest(), states[2]);
        x.undo();
        Due.is("put is undone", x.digest(), states[1]);
        Due.noIndex("its number was not given", x, () -> x.item(2, 0));
        Due.is("and is given again", x.put(8, 1), 2);
        x.undo();
        x.undo();
        Due.is("pick is undone", x.digest(), states[0]);
        Due.is("what was picked lies there", x.item(0, 1) * 100 + x.item(0, 0), 1004);
        Due.is("no steps, none picked", x.count(5) + x.count(6) + x.count(8), 0);
    }

    /** "but the buffer and the saved states" */
    private static void allButTheBuffer() {
        DrawerRing x = new DrawerRing();
        x.put(1, 1);
        x.append('0');
        x.turn(3);
        x.append(',');
        x.undo();
        Due.is("the buffer goes on", x.clearBuffer(), 2);
        x.turn(3);
        x.undo();
        Due.is("and is cleared though it was not", x.clearBuffer(), 0);
        Due.type(x, "0");
        x.pickAll();
        Due.type(x, "5,6,7");
        x.undo();
        Due.is("behind pickAll the buffer has what it was given then", x.clearBuffer(), 5);
        Due.is("the item lies there", x.count(1), 1);
        Due.is("the saved states are not restored", x.undo(), 0);
    }

    /** "At most 6 states are saved; the oldest one is dropped first." */
    private static void sixStates() {
        for (int calls = 1; calls <= 20; calls++) {
            DrawerRing x = new DrawerRing();
            for (int k = 1; k <= calls; k++) {
                x.turn(k % 12);
                Due.is("saved states behind " + k, x.count(10), Math.min(6, k));
            }
            int left = Math.min(6, calls);
            for (int k = calls - 1; left > 0; k--) {
                left--;
                Due.is("undo, states that are left", x.undo(), left);
                Due.is("the window then", x.count(0), k % 12);
                Due.is("the steps then", x.count(5), k);
            }
            Due.noState("no state is left", x, x::undo);
        }
    }

    /** The same with calls and undo mixed, so that what is dropped and what is restored lies anywhere. */
    private static void mixed() {
        DrawerRing x = new DrawerRing();
        List<Integer> saved = new ArrayList<>();
        int jammed = 0;
        for (int k = 0; k < 160; k++) {
            if (k * 7 % 12 < 7) {
                saved.add(jammed);
                if (saved.size() > 6) {
                    saved.remove(0);
                }
                int drawer = k * 5 % 12;
                x.jam(drawer, (jammed >> drawer & 1) == 0);
                jammed ^= 1 << drawer;
            } else if (!saved.isEmpty()) {
                jammed = saved.remove(saved.size() - 1);
                Due.is("undo", x.undo(), saved.size());
            }
            Due.is("jammed drawers at " + k, x.count(9), Integer.bitCount(jammed));
            Due.is("a drawer at " + k, x.drawer(k % 12, 3), jammed >> k % 12 & 1);
        }
    }

    /** undo: "IllegalStateException if there is none" */
    private static void noneIsSaved() {
        DrawerRing x = new DrawerRing();
        Due.noState("a new object", x, x::undo);
        x.append('1');
        Due.noState("a text is no saved state", x, x::undo);
        Due.noIndex("a call that throws", x, () -> x.turn(12));
        Due.noState("is no saved state", x, x::undo);
        x.turn(1);
        Due.is("one state", x.undo(), 0);
        Due.noState("and none then", x, x::undo);
        Due.is("the buffer stays", x.clearBuffer(), 1);
    }

    /**
     * A ring with 40 items in which each method can be made to throw for each of its reasons: 37 is gone;
     * 0 weighs 10 in the drawer 4; 38 weighs 5 in the drawer 3, to which each turn is refused; 39 lies in
     * the drawer 9, which is jammed; the drawer 6 has the load 26.
     */
    private static DrawerRing full() {
        DrawerRing x = Rings.peaked(3, 10);
        for (int k = 0; k < 32; k++) {
            x.put(k % 2 == 0 ? 0 : 6, 1);
        }
        x.put(3, 5);
        x.put(3, 5);
        x.put(9, 10);
        x.pick(37);
        x.put(3, 5);
        x.turn(0);
        x.jam(9, true);
        x.set(1, 30);
        x.set(0, 9);
        return x;
    }

    /** A call for each reason to throw, but for undo without a saved state and a buffer that is full. */
    private static void throwAll(DrawerRing x) {
        Due.noIndex("put: no such drawer", x, () -> x.put(12, 1));
        Due.noArgument("put: weight", x, () -> x.put(5, 0));
        Due.noState("put: 40 items", x, () -> x.put(0, 1));
        Due.noIndex("move: it is gone", x, () -> x.move(37, 2));
        Due.noIndex("move: not given", x, () -> x.move(41, 2));
        Due.noIndex("move: no such drawer", x, () -> x.move(0, 12));
        Due.noState("move: into a jammed drawer", x, () -> x.move(0, 9));
        Due.noState("move: out of a jammed drawer", x, () -> x.move(39, 0));
        Due.noState("move: the load", x, () -> x.move(38, 6));
        Due.noState("move: the imbalance", x, () -> x.move(0, 11));
        Due.noIndex("pick: it is gone", x, () -> x.pick(37));
        Due.noState("pick: jammed", x, () -> x.pick(39));
        Due.noState("pick: the turn", x, () -> x.pick(38));
        Due.noIndex("turn: no such drawer", x, () -> x.turn(12));
        Due.noState("turn: refused", x, () -> x.turn(3));
        Due.noIndex("jam: no such drawer", x, () -> x.jam(12, true));
        Due.noIndex("set: no such setting", x, () -> x.set(3, 0));
        Due.noArgument("set: the value", x, () -> x.set(0, 301));
        Due.noState("set: a greater load", x, () -> x.set(1, 25));
        Due.noArgument("append: the code", x, () -> x.append(32));
        Due.noArgument("pickAll: no batch", x, x::pickAll);
    }

    /** "A call that throws an exception changes nothing." Nor the saved states, nor the next number. */
    private static void changesNothing() {
        DrawerRing x = full();
        Due.type(x, "1,2,");
        throwAll(x);
        Due.is("the buffer", x.clearBuffer(), 4);
        unwindsAs(x, full());
        DrawerRing y = full();
        throwAll(y);
        Due.is("an item at the window", y.pick(5), 0);
        Due.is("the next number", y.put(0, 1), 41);
    }

    /** Both rings have the same states behind each undo, and give the same number then. */
    private static void unwindsAs(DrawerRing x, DrawerRing other) {
        for (int k = 0; k < 6; k++) {
            Due.is("digest ahead of undo " + k, x.digest(), other.digest());
            Due.is("undo " + k, x.undo(), other.undo());
        }
        Due.is("digest behind all", x.digest(), other.digest());
        x.pick(5);
        Due.is("the next number", x.put(0, 1), 40);
    }

    /** "If several exceptions apply, the one that is named first in the throws clause is thrown." */
    private static void firstNamed() {
        DrawerRing x = full();
        Due.type(x, "a");
        Due.noIndex("put: all three", x, () -> x.put(12, 21));
        Due.noIndex("put: index and state", x, () -> x.put(-1, 1));
        Due.noArgument("put: argument and state", x, () -> x.put(3, 21));
        Due.noIndex("move: item, and a jammed drawer", x, () -> x.move(99, 9));
        Due.noIndex("move: item and drawer", x, () -> x.move(99, 12));
        Due.noIndex("move: drawer, out of a jammed one", x, () -> x.move(39, 12));
        Due.noIndex("set: index and argument", x, () -> x.set(3, 301));
        Due.noIndex("set: index and argument", x, () -> x.set(-1, -1));
        Due.noArgument("set: argument and state", x, () -> x.set(1, 9));
        Due.noIndex("drawer: both", x, () -> x.drawer(12, 6));
        Due.noIndex("drawer: both", x, () -> x.drawer(-1, -1));
        Due.noIndex("item: both", x, () -> x.item(41, 2));
        Due.noIndex("item: both", x, () -> x.item(-1, -1));
        Due.noIndex("ifPut: both", x, () -> x.ifPut(12, 21));
        Due.noIndex("ifPut: both", x, () -> x.ifPut(-1, 0));
        for (int k = 1; k < 60; k++) {
            x.append('a');
        }
        Due.noArgument("append: both", x, () -> x.append(127));
        Due.noState("append: the state", x, () -> x.append(126));
    }

    public static void main(String[] args) {
        eachIsSaved();
        alsoIfNothingChanges();
        othersSaveNothing();
        allIsRestored();
        allButTheBuffer();
        sixStates();
        mixed();
        noneIsSaved();
        changesNothing();
        firstNamed();
        Due.end();
    }
}
