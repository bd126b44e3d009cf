/** Promises 10 to 16: what is drawn, given back, changed, laid, taken back, by draws, undone. */
public final class DeedsTest {
    public static void main(String[] args) {
        promise10();
        promise11();
        promise12();
        promise13();
        promise13Full();
        promise14();
        promise14Full();
        promise15();
        promise15Each();
        promise16();
        promise16Kept();
        turnsFull();
        Check.close();
    }

    /** The draw of n, as the document tells it. */
    private static int drawOf(long[] seed, int n) {
        seed[0] = (seed[0] * 1103515245L + 12345L) % 2147483648L;
        return (int) (seed[0] / 65536 % n);
    }

    private static void promise10() {
        LetterTray x = Check.game(Check.VALUES + "bbaa*h;", 0);
        String bag = "aabh*";
        String sorts = "abcdefgh*";
        long[] seed = {12345678};
        x.seed(12345678);
        for (int i = 0; i < 5; i++) {
            int at = drawOf(seed, bag.length());
            int sort = sorts.indexOf(bag.charAt(at));
            bag = bag.substring(0, at) + bag.substring(at + 1);
            Check.due("draw()", x.draw(), sort);
            Check.due("TURNS", x.told(7), i + 1);
            Check.due("THE BAG", x.told(3), 4 - i);
            Check.due("THE TRAY", x.told(4), i + 1);
        }
        Check.due("draw() of an empty bag", x.draw(), Check.NOT);
        Check.due("the seed of a refused draw", x.seed(3), seed[0]);
        x = Check.tray("abcdefgh****", "", 0);
        Check.due("draw(): the empty bag is told first", x.draw(), Check.NOT);
        x = Check.game(Check.VALUES + "b" + "c".repeat(13) + ";", 0);
        for (int i = 0; i < 12; i++) {
            Check.due("draw()", x.draw(), 2);
        }
        Check.due("draw() to a full tray", x.draw(), Check.FULL);
        Check.due("TURNS", x.told(7), 12);
        Check.due("told(17)", x.told(17), 12);
    }

    private static void promise11() {
        LetterTray x = Check.tray("aab*", "", 0);
        Check.due("give(-1)", x.give(-1), Check.OUTSIDE);
        Check.due("give(9)", x.give(9), Check.OUTSIDE);
        Check.due("give(2)", x.give(2), Check.NOT);
        Check.due("give(0)", x.give(0), 3);
        Check.due("give(8)", x.give(8), 2);
        Check.due("give(8)", x.give(8), Check.NOT);
        Check.due("bag of a", x.letters(0, 0), 1);
        Check.due("tray of a", x.letters(0, 1), 1);
        Check.due("bag of blanks", x.letters(8, 0), 1);
        Check.due("TURNS", x.told(7), 6);
        Check.due("told(17)", x.told(17), 6);
    }

    private static void promise12() {
        LetterTray x = Check.tray("c", "", 0);
        Check.due("change(9)", x.change(9), Check.OUTSIDE);
        Check.due("change(-1)", x.change(-1), Check.OUTSIDE);
        Check.due("change(0)", x.change(0), Check.NOT);
        Check.due("change(2): the one given back can come", x.change(2), 2);
        Check.due("TURNS", x.told(7), 2);
        Check.due("told(17)", x.told(17), 2);
        x = Check.game(Check.VALUES + "b" + "ab".repeat(7) + ";", 0);
        for (int i = 0; i < 12; i++) {
            x.draw();
        }
        int[] bag = {x.letters(0, 0), x.letters(1, 0)};
        long[] seed = {99};
        x.seed(99);
        bag[0]++;
        int due = drawOf(seed, 3) < bag[0] ? 0 : 1;
        Check.due("change(0) of a full tray", x.change(0), due);
        Check.due("THE TRAY", x.told(4), 12);
        Check.due("THE BAG", x.told(3), 2);
        Check.due("TURNS", x.told(7), 13);
        Check.due("the seed", x.seed(0), seed[0]);
    }

    private static void promise13() {
        LetterTray x = Check.tray("abba*", "w1abc;w3aba;w2ab;", 3);
        Check.due("lay(-1)", x.lay(-1), Check.UNKNOWN);
        Check.due("lay(3)", x.lay(3), Check.UNKNOWN);
        Check.due("lay(0)", x.lay(0), 12);
        Check.due("laid(0, 1)", x.laid(0, 1), 4);
        Check.due("THE TRAY", x.told(4), 2);
        Check.due("blanks", x.letters(8, 1), 0);
        Check.due("THE BAG", x.told(3), 0);
        Check.due("lay(1)", x.lay(1), Check.NOT);
        Check.due("lay(2)", x.lay(2), 21);
        Check.due("TURNS", x.told(7), 7);
        Check.due("told(5)", x.told(5), 2);
        Check.due("told(6)", x.told(6), 21);
        Check.due("lay(2)", x.lay(2), Check.NOT);
    }

    private static void promise13Full() {
        LetterTray x = Check.tray("aaaaaaaaaab", "w0a;w0bb;", 2);
        for (int i = 1; i <= 8; i++) {
            Check.due("lay(0)", x.lay(0), i);
        }
        Check.due("lay(0) of a ninth", x.lay(0), Check.FULL);
        Check.due("lay(1): what is missing is told first", x.lay(1), Check.NOT);
        Check.due("CAN, with no room", x.told(8), 1);
        Check.due("ODDS, with no room", x.word(0, 6), 1000);
        Check.due("TURNS", x.told(7), 19);
    }

    private static void promise14() {
        LetterTray x = Check.tray("ab*cdab", "w0ab;w1ahd;w0ba;", 3);
        Check.due("take(0)", x.take(0), Check.UNKNOWN);
        Check.due("lay(0)", x.lay(0), 4);
        Check.due("lay(1)", x.lay(1), 18);
        Check.due("lay(2)", x.lay(2), Check.NOT);
        Check.due("take(2)", x.take(2), Check.UNKNOWN);
        Check.due("take(-1)", x.take(-1), Check.UNKNOWN);
        Check.due("take(0)", x.take(0), 14);
        Check.due("laid(0, 0)", x.laid(0, 0), 1);
        Check.due("laid(0, 1)", x.laid(0, 1), 2);
        Check.due("laid(1, 0)", x.laid(1, 0), Check.UNKNOWN);
        Check.due("tray of a", x.letters(0, 1), 1);
        Check.due("tray of b", x.letters(1, 1), 2);
        Check.due("tray of blanks", x.letters(8, 1), 0);
        Check.due("take(0)", x.take(0), 0);
        Check.due("tray of blanks", x.letters(8, 1), 1);
        Check.due("tray of h", x.letters(7, 1), 0);
        Check.due("THE TRAY", x.told(4), 7);
        Check.due("TURNS", x.told(7), 11);
    }

    private static void promise14Full() {
        LetterTray x = Check.game(Check.VALUES + "b" + "a".repeat(16) + ";w0aaa;", 1);
        for (int i = 0; i < 12; i++) {
            x.draw();
        }
        Check.due("lay(0)", x.lay(0), 3);
        Check.due("draw()", x.draw(), 0);
        Check.due("take(0) to a tray of 10", x.take(0), Check.FULL);
        Check.due("give(0)", x.give(0), 9);
        Check.due("take(0) to a tray of 9", x.take(0), 0);
        Check.due("THE TRAY", x.told(4), 12);
    }

    private static void promise15() {
        LetterTray x = new LetterTray();
        Check.due("drift(0)", x.drift(0), Check.OUTSIDE);
        Check.due("drift(21)", x.drift(21), Check.OUTSIDE);
        Check.due("drift(20) of no game", x.drift(20), Check.NOT);
        x = Check.game(Check.VALUES, 0);
        Check.due("drift(20) of an empty game", x.drift(20), 0);
        long[] seed = {0};
        for (int i = 0; i < 20; i++) {
            drawOf(seed, 6);
        }
        Check.due("the seed: one draw each time", x.seed(0), seed[0]);
        Check.due("TURNS", x.told(7), 0);
        Check.due("told(17)", x.told(17), 20);
    }

    /** Single times of every kind, from seeds that are looked for. */
    private static void promise15Each() {
        for (int start = 1; start < 60; start++) {
            LetterTray x = Check.tray("aab", "w0a;w0b;w0bb;", 3);
            x.lay(0);
            long[] seed = {start};
            x.seed(start);
            int die = drawOf(seed, 6);
            int[] due = {2, 1, 1};
            if (die == 3) {
                due = new int[] {1, 1, 1};
                drawOf(seed, 2);
            } else if (die == 4) {
                int w = drawOf(seed, 3);
                due = w == 0 ? new int[] {1, 2, 2} : w == 1 ? new int[] {1, 2, 4} : due;
            } else if (die == 5) {
                drawOf(seed, 1);
                due = new int[] {3, 0, 0};
            }
            Check.due("drift(1) at " + start, x.drift(1), due[2]);
            Check.due("THE TRAY at " + start, x.told(4), due[0]);
            Check.due("LAID at " + start, x.told(5), due[1]);
            Check.due("the seed at " + start, x.seed(0), seed[0]);
        }
    }

    private static void promise16() {
        LetterTray x = Check.tray("abc", "w0ab;", 1);
        x.seed(1);
        x.lay(0);
        x.give(2);
        x.change(0);
        Check.due("undo(0)", x.undo(0), Check.OUTSIDE);
        Check.due("undo(31)", x.undo(31), Check.OUTSIDE);
        Check.due("undo(6)", x.undo(6), Check.NOT);
        Check.due("told(17)", x.told(17), 5);
        Check.due("undo(1)", x.undo(1), 4);
        Check.due("TURNS", x.told(7), 4);
        Check.due("THE TRAY", x.told(4), 1);
        Check.due("undo(1)", x.undo(1), 0);
        Check.due("told(5)", x.told(5), 0);
        Check.due("told(17)", x.told(17), 3);
        Check.due("undo(3)", x.undo(3), 0);
        Check.due("THE BAG", x.told(3), 3);
        Check.due("TURNS", x.told(7), 0);
        Check.due("undo(1)", x.undo(1), Check.NOT);
        int was = x.seed(0);
        Check.due("draw()", x.draw() >= 0 ? 1 : 0, 1);
        int then = x.seed(4);
        Check.due("undo(1)", x.undo(1), 0);
        Check.due("the seed stays", x.seed(0), 4);
        Check.due("seeds differ", was != then ? 1 : 0, 1);
        Check.due("say", x.say(0, 0, 0), 1);
        Check.due("what is said stays", x.undo(1), Check.NOT);
        Check.due("told(15)", x.told(15), 1);
    }

    private static void promise16Kept() {
        LetterTray x = Check.game(Check.VALUES + "baaaaaaaaaaaa;w0a;", 1);
        for (int i = 0; i < 8; i++) {
            x.draw();
        }
        for (int i = 0; i < 20; i++) {
            x.lay(0);
            x.take(0);
        }
        Check.due("TURNS", x.told(7), 48);
        Check.due("told(17)", x.told(17), 30);
        Check.due("undo(29)", x.undo(29), 1);
        Check.due("TURNS", x.told(7), 19);
        Check.due("told(17)", x.told(17), 1);
        Check.due("undo(2)", x.undo(2), Check.NOT);
        Check.due("undo(1)", x.undo(1), 0);
        Check.due("TURNS", x.told(7), 18);
        Check.due("undo(1)", x.undo(1), Check.NOT);
        x.drift(20);
        x.drift(20);
        Check.due("told(17) of drifts", x.told(17), 30);
        Check.due("undo(30)", x.undo(30) >= 0 ? 1 : 0, 1);
        Check.due("told(17)", x.told(17), 0);
    }

    /** No object that keeps to its 512 calls comes so far; the document tells it all the same. */
    private static void turnsFull() {
        LetterTray x = Check.game(Check.VALUES + "baaa;w0a;w0b;", 2);
        x.draw();
        x.draw();
        x.lay(0);
        while (x.told(7) < 89999 && x.change(0) == 0) {
            x.told(7);
        }
        Check.due("TURNS", x.told(7), 89999);
        Check.due("change(0) at 89999", x.change(0), 0);
        Check.due("TURNS", x.told(7), 90000);
        Check.due("draw() at 90000", x.draw(), Check.FULL);
        Check.due("give(0) at 90000", x.give(0), Check.FULL);
        Check.due("give(1) at 90000", x.give(1), Check.NOT);
        Check.due("change(0) at 90000", x.change(0), Check.FULL);
        Check.due("lay(0) at 90000", x.lay(0), Check.FULL);
        Check.due("lay(1) at 90000", x.lay(1), Check.NOT);
        Check.due("take(0) at 90000", x.take(0), Check.FULL);
        Check.due("take(1) at 90000", x.take(1), Check.UNKNOWN);
        Check.due("drift(1) at 90000", x.drift(1), Check.FULL);
        Check.due("drift(0) at 90000", x.drift(0), Check.OUTSIDE);
        Check.due("undo(1) at 90000", x.undo(1), 1);
        Check.due("draw() at 89999", x.draw(), 0);
        Check.due("draw() at 90000, of an empty bag", x.draw(), Check.NOT);
    }
}
