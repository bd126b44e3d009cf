/** Promises 29 to 31: the seed and the images. */
public final class ImagesTest {
    public static void main(String[] args) {
        promise29();
        promise30();
        promise31();
        promise31Whole();
        Check.close();
    }

    private static void promise29() {
        LetterTray x = new LetterTray();
        Check.due("seed(-1)", x.seed(-1), Check.OUTSIDE);
        Check.due("seed of the least", x.seed(Integer.MIN_VALUE), Check.OUTSIDE);
        Check.due("seed of the greatest", x.seed(2147483647), 0);
        Check.due("seed(1)", x.seed(1), 2147483647);
        x = Check.game(Check.VALUES + "ba;", 0);
        x.draw();
        Check.due("the seed behind one draw from 0", x.seed(2147483647), 12345);
        x.give(0);
        Check.due("give() draws nothing", x.seed(2147483647), 2147483647);
        x.draw();
        Check.due("the seed behind one draw from the greatest", x.seed(0), (2147483647L * 1103515245L + 12345L) % 2147483648L);
    }

    private static void promise30() {
        LetterTray x = new LetterTray();
        Check.due("keep(-1)", x.keep(-1), Check.UNKNOWN);
        Check.due("keep(2)", x.keep(2), Check.UNKNOWN);
        Check.due("keep(0) of no game", x.keep(0), 1);
        Check.due("goBack(0) of no game", x.goBack(0), 1);
        Check.due("goBack(1)", x.goBack(1), Check.NOT);
        x = Check.tray("abc", "w0ab;", 1);
        Check.due("told(17)", x.told(17), 3);
        Check.due("keep(2)", x.keep(2), Check.UNKNOWN);
        Check.due("told(17)", x.told(17), 3);
        Check.due("keep(1)", x.keep(1), 1);
        Check.due("told(17)", x.told(17), 0);
        Check.due("undo(1)", x.undo(1), Check.NOT);
        x.lay(0);
        Check.due("told(17)", x.told(17), 1);
    }

    private static void promise31() {
        LetterTray x = Check.tray("abc", "w0ab;", 1);
        Check.due("goBack(2)", x.goBack(2), Check.UNKNOWN);
        Check.due("goBack(-1)", x.goBack(-1), Check.UNKNOWN);
        Check.due("goBack(0)", x.goBack(0), Check.NOT);
        Check.due("told(17)", x.told(17), 3);
        x.keep(0);
        x.lay(0);
        x.keep(1);
        x.give(2);
        Check.due("goBack(0)", x.goBack(0), 1);
        Check.due("told(5)", x.told(5), 0);
        Check.due("told(4)", x.told(4), 3);
        Check.due("told(17)", x.told(17), 0);
        Check.due("undo(1)", x.undo(1), Check.NOT);
        Check.due("goBack(1)", x.goBack(1), 1);
        Check.due("told(5)", x.told(5), 1);
        Check.due("told(6)", x.told(6), 4);
        Check.due("goBack(0)", x.goBack(0), 1);
        Check.due("told(6)", x.told(6), 0);
        Check.feed(x, "v;");
        Check.due("game()", x.game(), -11);
        Check.due("goBack(1) behind a fault", x.goBack(1), 1);
        Check.due("game()", x.game(), 0);
        Check.due("goBack(1) behind a game", x.goBack(1), Check.NOT);
        Check.due("goBack(0) behind a game", x.goBack(0), Check.NOT);
    }

    /** An image has the tray, the bag, the table with its blanks, score, turns, seed; not what was said. */
    private static void promise31Whole() {
        LetterTray x = Check.tray("a*b", "w0cb;w0a;", 2);
        x.lay(0);
        x.lay(1);
        x.seed(31);
        x.say(0, 0, 0);
        x.write(0, 0);
        x.keep(0);
        x.take(0);
        x.give(1);
        x.take(0);
        x.drift(20);
        x.write(0, 0);
        x.tear();
        x.say(0, 0, 0);
        x.say(0, 0, 0);
        Check.due("goBack(0)", x.goBack(0), 1);
        Check.due("laid(0, 0)", x.laid(0, 0), 0);
        Check.due("laid(0, 1)", x.laid(0, 1), 1);
        Check.due("laid(1, 0)", x.laid(1, 0), 1);
        Check.due("told(3)", x.told(3), 0);
        Check.due("told(4)", x.told(4), 0);
        Check.due("told(5)", x.told(5), 2);
        Check.due("told(6)", x.told(6), 6);
        Check.due("told(7)", x.told(7), 5);
        Check.due("told(10)", x.told(10), 1);
        Check.due("told(15)", x.told(15), 2);
        Check.due("told(16)", x.told(16), 0);
        Check.due("the seed", x.seed(0), 31);
        Check.due("take(0)", x.take(0), 1);
        Check.due("letters(8, 1)", x.letters(8, 1), 1);
    }
}
