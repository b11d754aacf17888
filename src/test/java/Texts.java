/** Promises 8 to 12: append, clearBuffer, firstError, pickAll, undo. */
public final class Texts {
    private Texts() {
    }

    private static void append() {
        DrawerRing x = new DrawerRing();
        Due.noArgument("8: code 32", x, () -> x.append(32));
        Due.noArgument("8: code 127", x, () -> x.append(127));
        Due.noArgument("8: code -1", x, () -> x.append(-1));
        for (int k = 1; k <= 60; k++) {
            Due.is("8: the new length", x.append(k % 2 == 0 ? 33 : 126), k);
        }
        Due.noState("8: the buffer is full", x, () -> x.append(48));
        Due.noArgument("8: the argument is ahead of the state", x, () -> x.append(32));
        Due.is("8: not undoable", x.count(10), 0);
        Due.is("9: the length that it had", x.clearBuffer(), 60);
        Due.is("9: it is empty", x.clearBuffer(), 0);
        Due.is("8: there is room again", x.append(48), 1);
        Due.is("9: not undoable", x.count(10), 0);
    }

    private static void error(String text, int due) {
        DrawerRing x = new DrawerRing();
        Due.type(x, text);
        Due.is("10: firstError of '" + text + "'", x.firstError(), due);
        Due.is("10: the buffer stays", x.clearBuffer(), text.length());
    }

    private static void firstError() {
        error("", 0);
        error(",", 0);
        error("x1", 0);
        error("0", 1);
        error("00", 1);
        error("01", 1);
        error("0,1", 3);
        error("7", 1);
        error("999", 3);
        error("9999", 3);
        error("1000", 3);
        error("1,,2", 2);
        error("1,a", 2);
        error("1:2", 1);
        error("1/2", 1);
        error("1,02", 3);
        error("1,", 2);
        error("1,1", 3);
        error("1,1,", 3);
        error("1,12,1", 6);
        error("1,12,1,", 6);
        error("1,12,12,3", 7);
        error("0,0", 2);
        error("5,0,0", 4);
        error("123,123", 6);
        error("12,123,123,4", 9);
        error("123,12,123", 9);
        error("1,2,3,4,5,6", 11);
        error("1,2,3,4,5,6,", 11);
        error("1,2,3,4,5,6,7", 11);
        error("1,2,3,4,5,5", 11);
        error("1,2,3,4,5,5,", 11);
        error("1,2,3,4,5,55", 12);
        error("100,200,300,400,500,600", 23);
        error("100,200,300,400,500,100", 22);
        error("100,200,300,400,500,6001", 23);
        error("10,11,12,13,14,1", 16);
        error("0,1,2,3,4,0", 10);
        error("aaaaaaaaaaaaaaaaaaaaaaaaaaaaaaaaaaaaaaaaaaaaaaaaaaaaaaaaaaaa", 0);
    }

    private static int tried = 0;

    /** Each text to six characters that begins a batch, and each character behind it, as the model has it. */
    private static void tryAll(String text) {
        DrawerRing x = new DrawerRing();
        Due.type(x, text);
        Model m = new Model();
        for (char c : text.toCharArray()) {
            m.append(c);
        }
        int due = m.firstError();
        Due.is("10: firstError of '" + text + "'", x.firstError(), due);
        boolean isBatch = x.ifPicked(0, 0) != -1;
        Due.isTrue("11: '" + text + "' is as complete as in the model", isBatch == (m.ifPicked(0, 0) != -1));
        tried++;
        if (due == text.length() && text.length() < 6) {
            for (char c : "012,/".toCharArray()) {
                tryAll(text + c);
            }
        }
    }

    private static void incomplete(String text) {
        DrawerRing x = new DrawerRing();
        Due.type(x, text);
        Due.noArgument("11: '" + text + "'", x, x::pickAll);
        Due.is("11: the buffer stays", x.clearBuffer(), text.length());
    }

    private static void pickAll() {
        for (String text : new String[] {"", "1,", "1,1", "0,0", "1,2,3,4,5,6,7", "a", "1a", "01", "1000", "12,3,12"}) {
            incomplete(text);
        }
        DrawerRing x = new DrawerRing();
        x.put(2, 5);
        x.put(11, 6);
        x.put(4, 7);
        Due.type(x, "2,1,0");
        Due.is("11: all are picked", x.pickAll(), 3);
        Due.is("11: the buffer is cleared", x.clearBuffer(), 0);
        Due.is("11: in the order told", x.count(5), 4 + 5 + 3);
        Due.is("11: steps down", x.count(6), 5);
        Due.is("11: the window", x.count(0), 2);
        Due.is("11: one saved state", x.count(10), 4);
        Due.is("11: picked", x.count(8), 3);
        Due.is("11: undone as one call", x.undo(), 3);
        Due.is("11: the items are there", x.count(1), 3);
        Due.is("11: the window is as before", x.count(0), 0);
        Due.is("11: undo leaves the buffer", x.clearBuffer(), 0);
        Due.type(x, "0,9,1");
        Due.is("11: up to the one that is refused", x.pickAll(), 1);
        Due.is("11: the buffer is cleared all the same", x.firstError(), 0);
        Due.type(x, "999");
        Due.is("11: none", x.pickAll(), 0);
        Due.is("11: also if nothing is picked", x.count(10), 5);
        Due.is("11: and the buffer is cleared", x.clearBuffer(), 0);
    }

    /** 0: in the order told; 1: by the nearest; 2: by the fewest steps. */
    private static DrawerRing ringOfRule(int rule) {
        DrawerRing x = new DrawerRing();
        x.put(10, 1);
        x.put(3, 1);
        x.put(5, 1);
        x.put(1, 1);
        x.set(2, rule);
        Due.type(x, "1,0,2,3");
        return x;
    }

    private static void pickByRules() {
        DrawerRing told = ringOfRule(0);
        Due.is("11: rule 0", told.pickAll(), 4);
        Due.is("11: rule 0: 3 up, 5 down, 5 down, 4 down", told.count(5) * 100 + told.count(6), 1714);
        Due.is("11: rule 0: ends at 1", told.count(0), 1);
        DrawerRing near = ringOfRule(1);
        Due.is("11: rule 1", near.pickAll(), 4);
        Due.is("11: rule 1: to 1, 3, 5, then up to 10", near.count(5) * 100 + near.count(6), 1000);
        Due.is("11: rule 1: ends at 10", near.count(0), 10);
        DrawerRing fewest = ringOfRule(2);
        Due.is("11: rule 2", fewest.pickAll(), 4);
        Due.is("11: rule 2: 2 down, 3, 2, 2 up", fewest.count(5) * 100 + fewest.count(6), 902);
        Due.is("11: rule 2: ends at 5", fewest.count(0), 5);
    }

    private static void undo() {
        DrawerRing x = new DrawerRing();
        for (int k = 0; k < 9; k++) {
            x.put(k, 1);
        }
        Due.is("12: six states at most", x.count(10), 6);
        Due.type(x, "12");
        for (int left = 5; left >= 0; left--) {
            Due.is("12: states left", x.undo(), left);
            Due.is("12: items", x.count(1), left + 3);
        }
        Due.is("12: numbers are given again", x.put(0, 1), 3);
        x.undo();
        Due.noState("12: none is left", x, x::undo);
        Due.is("12: the buffer stays", x.clearBuffer(), 2);
        x.jam(1, true);
        x.turn(8);
        x.set(0, 7);
        x.undo();
        Due.is("12: a setting", x.setting(0), 60);
        x.undo();
        Due.is("12: the window", x.count(0), 0);
        x.undo();
        Due.is("12: a jam", x.count(9), 0);
    }

    /** Each kind of undoable call is undone whole. */
    private static void undoEach() {
        DrawerRing x = new DrawerRing();
        long[] digests = new long[6];
        for (int k = 0; k < 6; k++) {
            digests[k] = x.digest();
            switch (k) {
                case 0: x.put(5, 9); break;
                case 1: x.move(0, 8); break;
                case 2: x.turn(7); break;
                case 3: x.jam(2, true); break;
                case 4: x.set(1, 99); break;
                default: x.pick(0);
            }
        }
        for (int k = 5; k >= 0; k--) {
            x.undo();
            Due.is("12: digest behind undo of the call " + k, x.digest(), digests[k]);
        }
    }

    /** Looks save nothing, and calls that throw save nothing. */
    private static void savesNothing() {
        DrawerRing x = new DrawerRing();
        Due.type(x, "0");
        x.digest();
        x.ifPicked(2, 0);
        x.firstError();
        x.bestDrawer(1);
        Due.noIndex("12: put that throws", x, () -> x.put(12, 1));
        Due.noIndex("12: turn that throws", x, () -> x.turn(12));
        Due.is("12: nothing is saved", x.count(10), 0);
    }

    public static void main(String[] args) {
        append();
        firstError();
        tryAll("");
        Due.isTrue("10: there are many such texts", tried > 1000);
        pickAll();
        pickByRules();
        undo();
        undoEach();
        savesNothing();
        Due.end();
    }
}
