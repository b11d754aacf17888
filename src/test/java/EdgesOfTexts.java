/** The edges of the head 'Input text' and of the promises 8 to 11: each sentence that names one, as it is quoted. */
public final class EdgesOfTexts {
    private EdgesOfTexts() {
    }

    /** "The buffer has at most 60 characters." (append) "IllegalStateException if the buffer has 60 characters" */
    private static void sixtyCharacters() {
        DrawerRing x = new DrawerRing();
        for (int k = 1; k <= 60; k++) {
            Due.is("append, the new length", x.append('a' + k % 26), k);
        }
        Due.noState("the character 61", x, () -> x.append('0'));
        Due.noState("the character 61 again", x, () -> x.append(','));
        Due.noArgument("the argument is ahead of the state", x, () -> x.append(32));
        Due.noArgument("the argument is ahead of the state", x, () -> x.append(127));
        Due.is("clearBuffer, the length that it had", x.clearBuffer(), 60);
        Due.is("clearBuffer again", x.clearBuffer(), 0);
        Due.is("the first character behind it", x.append('0'), 1);
        Due.is("clearBuffer, one character", x.clearBuffer(), 1);
    }

    /** "the character code, 33 to 126" */
    private static void codes() {
        DrawerRing x = new DrawerRing();
        for (int code = 33; code <= 126; code++) {
            x.clearBuffer();
            Due.is("append " + code, x.append(code), 1);
        }
        for (int none : new int[] {-48, -1, 0, 9, 10, 13, 31, 32, 127, 128, 160, 255, 256, 256 + 48}) {
            Due.noArgument("append " + none, x, () -> x.append(none));
        }
        for (int none : Rings.FAR) {
            Due.noArgument("append " + none, x, () -> x.append(none));
        }
    }

    private static void error(String text, int due) {
        DrawerRing x = new DrawerRing();
        Due.type(x, text);
        Due.is("firstError of '" + text + "'", x.firstError(), due);
        Due.is("the buffer stays", x.clearBuffer(), text.length());
    }

    /** A text that is none, though each of its characters is fine: it is incomplete. */
    private static void incomplete(String text) {
        error(text, text.length());
        noBatch(text);
    }

    private static void noBatch(String text) {
        DrawerRing x = new DrawerRing();
        x.put(1, 1);
        x.put(2, 1);
        Due.type(x, text);
        Due.noArgument("pickAll of '" + text + "'", x, x::pickAll);
        for (int rule = 0; rule <= 2; rule++) {
            for (int what = 0; what <= 3; what++) {
                Due.is("ifPicked of '" + text + "'", x.ifPicked(rule, what), -1);
            }
        }
        Due.is("nothing is saved", x.count(10), 2);
        Due.is("the buffer stays", x.clearBuffer(), text.length());
    }

    /** A batch, of which none is picked as there is no item. */
    private static void complete(String text) {
        error(text, text.length());
        DrawerRing x = new DrawerRing();
        Due.type(x, text);
        for (int rule = 0; rule <= 2; rule++) {
            Due.is("ifPicked of '" + text + "'", x.ifPicked(rule, 0), 0);
        }
        Due.is("pickAll of '" + text + "'", x.pickAll(), 0);
        Due.is("the buffer is cleared", x.clearBuffer(), 0);
        Due.is("one state is saved, though nothing is picked", x.count(10), 1);
    }

    private static void refused(String text, int due) {
        error(text, due);
        noBatch(text);
    }

    /** "A batch as a text is 1 to 6 unlike numbers of items": none, one, six, seven. */
    private static void oneToSixNumbers() {
        incomplete("");
        complete("7");
        complete("7,8");
        complete("1,2,3,4,5,6");
        complete("100,200,300,400,500,600");
        refused("1,2,3,4,5,6,", 11);
        refused("1,2,3,4,5,6,7", 11);
        refused("100,200,300,400,500,600,", 23);
        refused("10,20,30,40,50,0,7", 16);
    }

    /** "0 to 999": a number of four digits is an error at the fourth one, as is a digit behind it. */
    private static void numbersTo999() {
        complete("0");
        complete("9");
        complete("10");
        complete("99");
        complete("100");
        complete("999");
        complete("0,999");
        refused("1000", 3);
        refused("9999", 3);
        refused("0,1000", 5);
        refused("1,2,3,4,5,1000", 13);
        refused("12345678901234567890123456789012345678901234567890", 3);
    }

    /** "without leading zeros" */
    private static void leadingZeros() {
        refused("00", 1);
        refused("01", 1);
        refused("09", 1);
        refused("000", 1);
        refused("5,00", 3);
        refused("5,01", 3);
        refused("1,2,3,4,5,01", 11);
        complete("5,0");
        complete("0,10");
        complete("100,0");
    }

    /** "with "," between them": not ahead of them, nor behind them, nor twice. */
    private static void commas() {
        refused(",", 0);
        refused(",1", 0);
        refused("1,,2", 2);
        refused("1,,", 2);
        refused("1,2,,3", 4);
        incomplete("1,");
        incomplete("0,");
        incomplete("999,");
        incomplete("1,2,3,4,5,");
    }

    /** Each character that is no digit and no comma, ahead of a number, in it, and behind a comma. */
    private static void otherCharacters() {
        for (char sign = 33; sign <= 126; sign++) {
            boolean isFine = sign >= '0' && sign <= '9';
            boolean isComma = sign == ',';
            error(sign + "1", isFine ? sign == '0' ? 1 : 2 : 0);
            error("7" + sign, isFine || isComma ? 2 : 1);
            error("7," + sign, isFine ? 3 : 2);
            error("77" + sign, isFine || isComma ? 3 : 2);
            error("777" + sign, isComma ? 4 : 3);
            error("0" + sign, isComma ? 2 : 1);
            error("1,2,3,4,5,6" + sign, isFine ? 12 : 11);
        }
    }

    /** "a number that is told already is an error at the "," behind it" "At the end of the text it makes the batch incomplete." */
    private static void toldAlready() {
        incomplete("1,1");
        incomplete("12,12");
        incomplete("1,2,3,4,5,5");
        incomplete("1,2,3,4,5,1");
        refused("1,1,", 3);
        refused("1,1,2", 3);
        refused("12,12,", 5);
        refused("1,12,1,", 6);
        refused("12,1,12,1", 7);
        refused("1,2,3,4,5,5,", 11);
        complete("1,11");
        complete("1,10,100");
        complete("11,1");
        complete("111,11,1");
        complete("12,123");
        complete("123,12,1,2,3,23");
    }

    /** "(... if it cannot go on, as it is 0 or has three digits, at its last digit.)" */
    private static void cannotGoOn() {
        refused("0,0", 2);
        refused("0,0,", 2);
        refused("0,00", 2);
        refused("5,0,0", 4);
        refused("0,1,2,3,4,0", 10);
        refused("123,123", 6);
        refused("123,123,", 6);
        refused("999,999", 6);
        refused("100,100", 6);
        refused("1,12,123,123", 11);
        refused("100,200,300,400,500,100", 22);
        refused("100,200,300,400,500,500", 22);
        complete("123,124");
        complete("123,12,321");
        complete("100,200,300,400,500,501");
    }

    /** The same: each place in a batch of six, told again at each later one. */
    private static void toldAtEachPlace() {
        String[][] numbers = {{"1", "2", "3", "4", "5", "6"}, {"10", "20", "30", "40", "50", "60"},
            {"100", "200", "300", "400", "500", "600"}};
        for (String[] row : numbers) {
            for (int later = 1; later < 6; later++) {
                for (int first = 0; first < later; first++) {
                    StringBuilder text = new StringBuilder();
                    for (int k = 0; k < later; k++) {
                        text.append(row[k]).append(',');
                    }
                    text.append(row[first]);
                    boolean canGoOn = row[first].length() < 3;
                    error(text.toString(), canGoOn ? text.length() : text.length() - 1);
                    noBatch(text.toString());
                    error(text + ",", canGoOn ? text.length() : text.length() - 1);
                }
            }
        }
    }

    /** "The buffer is read from left to right": the first of several errors; also in a buffer that is full. */
    private static void firstOfSeveral() {
        refused("1,,x00", 2);
        refused("x,,", 0);
        refused("1,2,01,,2", 5);
        StringBuilder full = new StringBuilder("100,200,300,400,500,600");
        while (full.length() < 60) {
            full.append('!');
        }
        refused(full.toString(), 23);
        full.setCharAt(0, '0');
        refused(full.toString(), 1);
        full.setCharAt(0, '~');
        refused(full.toString(), 0);
    }

    /** firstError: "the length of the buffer if there is none"; character by character, and behind clearBuffer. */
    private static void noError() {
        DrawerRing x = new DrawerRing();
        Due.is("an empty buffer", x.firstError(), 0);
        String text = "0,12,345,6,78,999";
        for (int k = 0; k < text.length(); k++) {
            x.append(text.charAt(k));
            Due.is("firstError of the first " + (k + 1), x.firstError(), k + 1);
        }
        x.append('9');
        Due.is("then one error", x.firstError(), 17);
        x.append('1');
        Due.is("then it stays the first one", x.firstError(), 17);
        x.clearBuffer();
        Due.is("a buffer that is empty again", x.firstError(), 0);
        x.append('5');
        Due.is("a new text", x.firstError(), 1);
    }

    /** pickAll: "and clears the buffer": also if some are picked, one or none. */
    private static void pickAllClears() {
        DrawerRing x = new DrawerRing();
        x.put(1, 2);
        x.put(2, 2);
        x.put(3, 2);
        Due.type(x, "0,1,9,2");
        Due.is("two are picked", x.pickAll(), 2);
        Due.is("cleared", x.clearBuffer(), 0);
        Due.noArgument("an empty buffer is no batch", x, x::pickAll);
        Due.type(x, "0");
        Due.is("it is gone: none is picked", x.pickAll(), 0);
        Due.is("cleared again", x.firstError(), 0);
        Due.is("both are saved", x.count(10), 5);
        x.undo();
        Due.is("nothing was picked behind this state", x.count(8), 2);
        x.undo();
        Due.is("both were picked behind this one, as one call", x.count(8), 0);
        Due.is("the items are there", x.count(1), 3);
    }

    public static void main(String[] args) {
        sixtyCharacters();
        codes();
        oneToSixNumbers();
        numbersTo999();
        leadingZeros();
        commas();
        otherCharacters();
        toldAlready();
        cannotGoOn();
        toldAtEachPlace();
        firstOfSeveral();
        noError();
        pickAllClears();
        Due.end();
    }
}
