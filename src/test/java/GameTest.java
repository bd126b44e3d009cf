/** Promises 1 to 9: the text, its faults, and what is told of the game. */
public final class GameTest {
    public static void main(String[] args) {
        promise1();
        promise2();
        promise3Texts();
        promise3Faults();
        promise3Spaces();
        promise3Ends();
        promise3Again();
        promise3Longest();
        promise4();
        promise5();
        promise6();
        promise7();
        promise7Odds();
        promise8();
        promise9();
        Check.close();
    }

    private static void promise1() {
        LetterTray x = new LetterTray();
        int[] due = {0, 0, 0, 0, 0, 0, 0, 0, 0, -1, 1, 0, 0, 255, 0, 0, 0, 0};
        for (int what = 0; what < due.length; what++) {
            Check.due("told(" + what + ") of a new object", x.told(what), due[what]);
        }
        Check.due("new fault()", x.fault(), Check.NONE);
        Check.due("new word(0, 0)", x.word(0, 0), Check.UNKNOWN);
        Check.due("new word(0, 9)", x.word(0, 9), Check.UNKNOWN);
        Check.due("new laid(0, 0)", x.laid(0, 0), Check.UNKNOWN);
        Check.due("new letters(3, 0)", x.letters(3, 0), 0);
        Check.due("new letters(3, 2)", x.letters(3, 2), 0);
        Check.due("new draw()", x.draw(), Check.NOT);
        Check.due("new give(0)", x.give(0), Check.NOT);
        Check.due("new change(8)", x.change(8), Check.NOT);
        Check.due("new lay(0)", x.lay(0), Check.UNKNOWN);
        Check.due("new take(0)", x.take(0), Check.UNKNOWN);
        Check.due("new drift(1)", x.drift(1), Check.NOT);
        Check.due("new undo(1)", x.undo(1), Check.NOT);
        Check.due("new first(0)", x.first(0), Check.NONE);
        Check.due("new couldBe()", x.couldBe(), 0);
        Check.due("new ask()", x.ask(), Check.NONE);
        Check.due("new judge()", x.judge(), Check.NONE);
        Check.due("new tear()", x.tear(), 0);
        Check.due("new goBack(0)", x.goBack(0), Check.NOT);
        Check.due("new seed(5)", x.seed(5), 0);
    }

    private static void promise2() {
        LetterTray x = new LetterTray();
        Check.due("feed(-1)", x.feed(-1), Check.OUTSIDE);
        Check.due("feed(256)", x.feed(256), Check.OUTSIDE);
        Check.due("told(2)", x.told(2), 0);
        Check.due("feed(0)", x.feed(0), 1);
        Check.due("feed(255)", x.feed(255), 2);
        for (int i = 3; i <= 240; i++) {
            Check.due("feed", x.feed('v'), i);
        }
        Check.due("feed of a 241st", x.feed('v'), Check.FULL);
        Check.due("feed(256) of a 241st", x.feed(256), Check.OUTSIDE);
        Check.due("told(2)", x.told(2), 240);
        Check.due("game()", x.game(), -11);
        Check.due("fault()", x.fault(), 0);
        Check.due("told(2)", x.told(2), 0);
        Check.due("feed", x.feed('v'), 1);
    }

    private static void promise3Texts() {
        LetterTray x = Check.game("", 0);
        Check.due("told(0)", x.told(0), 0);
        x = Check.game("    ", 0);
        Check.due("told(0)", x.told(0), 0);
        x = Check.game("v1,2,3,4,5,6,7,8;", 0);
        Check.due("told(0)", x.told(0), 1);
        Check.due("told(3)", x.told(3), 0);
        x = Check.game(Check.VALUES + "w0a;bhh*;w1b;", 2);
        Check.due("told(3)", x.told(3), 3);
        x = Check.game(Check.VALUES + "b" + "abcdefgh".repeat(5) + ";", 0);
        Check.due("told(3)", x.told(3), 40);
        Check.game(Check.VALUES + "w0a;w0b;w0c;w0d;w0e;w0f;w0g;w0h;w0aa;w0bbbbbb;", 10);
    }

    private static void fault(String text, int number, int place) {
        LetterTray x = new LetterTray();
        Check.feed(x, text);
        Check.due("game() of " + text, x.game(), -10 - number);
        Check.due("fault() of " + text, x.fault(), place);
        Check.due("told(2) of " + text, x.told(2), 0);
        Check.due("told(0) of " + text, x.told(0), 0);
    }

    private static void promise3Faults() {
        int end = Check.VALUES.length();
        fault("b", 1, 0);
        fault("w0a;", 1, 0);
        fault("V", 1, 0);
        fault("1", 1, 0);
        fault("vv", 1, 1);
        fault("v;", 1, 1);
        fault("v1,;", 1, 3);
        fault("v1,2,3,4,5,6,7;", 1, 14);
        fault("v1,2,3,4,5,6,7,8,", 1, 16);
        fault("v1,2,3,4,5,6,7,8,99", 1, 16);
        fault("v1;b", 1, 2);
        fault("v0,", 2, 1);
        fault("v10", 2, 1);
        fault("v1,2,0003", 2, 5);
        fault("v1,2,999999999999999999999!", 2, 5);
        fault("v1,2,4294967297,", 2, 5);
        fault(Check.VALUES + "v", 3, end);
        fault(Check.VALUES + ";", 1, end);
        fault(Check.VALUES + "x", 1, end);
        fault(Check.VALUES + "b;", 1, end + 1);
        fault(Check.VALUES + "bai", 1, end + 2);
        fault(Check.VALUES + "bA", 1, end + 1);
        fault(Check.VALUES + "ba,", 1, end + 2);
        fault(Check.VALUES + "b1", 1, end + 1);
        fault(Check.VALUES + "w;", 1, end + 1);
        fault(Check.VALUES + "wa;", 1, end + 1);
        fault(Check.VALUES + "w4a;", 2, end + 1);
        fault(Check.VALUES + "w10a;", 2, end + 1);
        fault(Check.VALUES + "w0000a;", 2, end + 1);
        fault(Check.VALUES + "w0;", 1, end + 2);
        fault(Check.VALUES + "w0*;", 1, end + 2);
        fault(Check.VALUES + "w0a*;", 1, end + 3);
        fault(Check.VALUES + "w0a1;", 1, end + 3);
        fault(Check.VALUES + "w0abcdefg", 2, end + 8);
        fault(Check.VALUES + "w0abcdef*", 1, end + 8);
        fault(Check.VALUES + "w0abcdefi", 1, end + 8);
        fault(Check.VALUES + "b" + "*".repeat(41), 2, end + 41);
        fault(Check.VALUES + "b" + "a".repeat(40) + "i", 1, end + 41);
        fault(Check.VALUES + "b" + "a".repeat(40) + "*", 2, end + 41);
    }

    private static void promise3Spaces() {
        LetterTray x = Check.game(" v 001 , 2,3,4,5,6,7, 8 ;  b a b * ; w 02 a b ; w0ba;  ", 2);
        Check.due("value of a", x.letters(0, 2), 1);
        Check.due("value of h", x.letters(7, 2), 8);
        Check.due("told(3)", x.told(3), 3);
        Check.due("word(0, 0)", x.word(0, 0), 2);
        Check.due("word(0, 1)", x.word(0, 1), 2);
        fault(" v1 2,", 1, 4);
        fault("v1,2 2", 1, 5);
        fault(Check.VALUES + "w0 0a;", 1, Check.VALUES.length() + 3);
        fault("v1\t", 1, 2);
    }

    private static void promise3Ends() {
        int end = Check.VALUES.length();
        fault("v", 1, 1);
        fault("v   ", 1, 4);
        fault("v1", 1, 2);
        fault("v1,", 1, 3);
        fault("v1,2,3,4,5,6,7,8", 1, 16);
        fault(Check.VALUES + "b", 1, end + 1);
        fault(Check.VALUES + "ba", 1, end + 2);
        fault(Check.VALUES + "b" + "a".repeat(40), 1, end + 41);
        fault(Check.VALUES + "w", 1, end + 1);
        fault(Check.VALUES + "w0", 1, end + 2);
        fault(Check.VALUES + "w0a  ", 1, end + 5);
        fault(Check.VALUES + "w0abcdef", 1, end + 8);
    }

    private static void promise3Again() {
        int end = Check.VALUES.length();
        fault(Check.VALUES + "w0a;v", 3, end + 4);
        fault(Check.VALUES + "ba;b", 3, end + 3);
        fault(Check.VALUES + "ba; b;", 3, end + 4);
        fault(Check.VALUES + "w0a;w0b;w0c;w0d;w0e;w0f;w0g;w0h;w0aa;w0bb;w", 3, end + 42);
        fault(Check.VALUES + "w0ab;w1ab;", 4, end + 9);
        fault(Check.VALUES + "w0ab;w0abc;w3 a b ;", 4, end + 18);
        fault(Check.VALUES + "w0ab;w1ab*", 1, end + 9);
        fault(Check.VALUES + "w0ab;w1ab", 1, end + 9);
        Check.game(Check.VALUES + "w0ab;w0ba;w0a;w0abb;", 4);
    }

    /** Texts of 240 letters, and short ones behind them: what was fed earlier is gone. */
    private static void promise3Longest() {
        String words = Check.VALUES + "w0ab;";
        LetterTray x = Check.game(words + " ".repeat(240 - words.length()), 1);
        Check.due("told(2)", x.told(2), 0);
        fault(words + " ".repeat(235 - words.length()) + "w0 ba", 1, 240);
        fault(words + " ".repeat(238 - words.length()) + "w0", 1, 240);
        fault(words + " ".repeat(239 - words.length()) + "w", 1, 240);
        Check.game(words + " ".repeat(235 - words.length()) + "w0ba;", 2);
        x = Check.game(words + "w0ba;", 2);
        Check.feed(x, Check.VALUES + "w0a");
        Check.due("game(): the ';' of the earlier text is gone", x.game(), -11);
        Check.due("fault()", x.fault(), Check.VALUES.length() + 3);
        Check.feed(x, Check.VALUES.substring(0, 16));
        Check.due("game(): the ';' of the earlier text is gone", x.game(), -11);
        Check.due("fault()", x.fault(), 16);
        Check.due("told(1)", x.told(1), 2);
    }

    /** A fault changes nothing but the text; a game makes all anew but the seed. */
    private static void promise4() {
        LetterTray x = Check.game(Check.GAME, 8);
        x.seed(77);
        x.draw();
        x.say(0, 1, 1);
        x.write(0, 0);
        x.keep(1);
        int letter = x.draw();
        Check.feed(x, "v1;");
        Check.due("game()", x.game(), -11);
        Check.due("fault()", x.fault(), 2);
        Check.due("fault() again", x.fault(), 2);
        Check.due("told(1)", x.told(1), 8);
        Check.due("told(4)", x.told(4), 2);
        Check.due("told(7)", x.told(7), 2);
        Check.due("told(15)", x.told(15), 1);
        Check.due("told(16)", x.told(16), 1);
        Check.due("told(17)", x.told(17), 1);
        Check.due("letters", x.letters(letter, 1) > 0 ? 1 : 0, 1);
        Check.feed(x, Check.VALUES + "bab;");
        Check.due("game()", x.game(), 0);
        Check.due("fault()", x.fault(), Check.NONE);
        int[] due = {1, 0, 0, 2, 0, 0, 0, 0, 0, -1, 1, 0, 0, 255, 0, 0, 0, 0};
        for (int what = 0; what < due.length; what++) {
            Check.due("told(" + what + ") of the next game", x.told(what), due[what]);
        }
        Check.due("goBack(1)", x.goBack(1), Check.NOT);
        Check.due("the seed stays", x.seed(0) != 0 ? 1 : 0, 1);
        Check.due("game() of an empty text", x.game(), 0);
        Check.due("told(0)", x.told(0), 0);
        Check.due("told(3)", x.told(3), 0);
        Check.due("letters(0, 2)", x.letters(0, 2), 0);
    }

    private static void promise5() {
        LetterTray x = Check.tray("aabbab", "w0ab;w0ba;w2aab;w1b;", 4);
        Check.due("told(-1)", x.told(-1), Check.OUTSIDE);
        Check.due("told(18)", x.told(18), Check.OUTSIDE);
        int[] due = {1, 4, 0, 0, 6, 0, 0, 6, 15, 2, 6, 22, 3, 252, 2, 0, 0, 6};
        for (int what = 0; what < due.length; what++) {
            Check.due("told(" + what + ")", x.told(what), due[what]);
        }
        x = Check.tray("", "w0ab;w0cd;", 2);
        Check.due("FARTHEST with no ladder", x.told(14), 0);
        x = Check.tray("**", "w0cd;w0hhh;w0dc;", 3);
        Check.due("CAN", x.told(8), 5);
        Check.due("BEST of like ones", x.told(9), 0);
        x = Check.tray("aaaa", "w0a;w0aa;", 2);
        Check.due("ALL", x.told(10), 3);
        Check.due("MOST", x.told(11), 4);
        Check.due("MANY", x.told(12), 2);
        x = Check.tray("aaag", "w0a;w0aa;", 2);
        Check.due("ALL with a letter of no word", x.told(10), 0);
    }

    private static void promise6() {
        LetterTray x = Check.game(Check.GAME, 8);
        int[] bag = {3, 2, 2, 1, 2, 1, 1, 1, 2};
        int[] values = {1, 3, 2, 4, 1, 5, 6, 2, 0};
        for (int letter = 0; letter <= 8; letter++) {
            Check.due("letters(" + letter + ", 0)", x.letters(letter, 0), bag[letter]);
            Check.due("letters(" + letter + ", 1)", x.letters(letter, 1), 0);
            Check.due("letters(" + letter + ", 2)", x.letters(letter, 2), values[letter]);
        }
        int drawn = x.draw();
        Check.due("letters of the bag", x.letters(drawn, 0), bag[drawn] - 1);
        Check.due("letters of the tray", x.letters(drawn, 1), 1);
        Check.due("letters(-1, 0)", x.letters(-1, 0), Check.OUTSIDE);
        Check.due("letters(9, 0)", x.letters(9, 0), Check.OUTSIDE);
        Check.due("letters(0, -1)", x.letters(0, -1), Check.OUTSIDE);
        Check.due("letters(0, 3)", x.letters(0, 3), Check.OUTSIDE);
    }

    private static void words(LetterTray x, int[][] due) {
        for (int w = 0; w < due.length; w++) {
            for (int what = 0; what < due[w].length; what++) {
                Check.due("word(" + w + ", " + what + ")", x.word(w, what), due[w][what]);
            }
        }
    }

    private static void promise7() {
        LetterTray x = Check.tray("aab*", "w0ab;w1cab;w2bac;w2caba;w3aba;w3abac;w3h;", 7);
        words(x, new int[][] {
            {0, 2, 4, 0, 1, 0, 1000},
            {1, 3, 12, 1, 6, 5, 1000},
            {2, 3, 11, 1, 6, 3, 1000},
            {2, 4, 7, 1, 40, 55, 1000},
            {3, 3, 15, 0, 16, 1, 1000},
            {3, 4, 7, 1, 40, 31, 1000},
            {3, 1, 6, 1, 64, 0, 1000},
        });
        Check.due("word(-1, 0)", x.word(-1, 0), Check.UNKNOWN);
        Check.due("word(7, 9)", x.word(7, 9), Check.UNKNOWN);
        Check.due("word(0, -1)", x.word(0, -1), Check.OUTSIDE);
        Check.due("word(0, 7)", x.word(0, 7), Check.OUTSIDE);
    }

    /** What the next draw does for words that miss nothing, one letter, or more. */
    private static void promise7Odds() {
        LetterTray x = Check.game(Check.VALUES + "baaaabb*;w0a;w0ab;w0abc;w0cc;w0c;", 5);
        int[] empty = {714, 0, 0, 0, 142};
        for (int w = 0; w < empty.length; w++) {
            Check.due("odds of an empty tray", x.word(w, 6), empty[w]);
        }
        while (x.draw() != 1) {
            for (int letter = 0; letter <= 8; letter++) {
                x.give(letter);
            }
        }
        int[] one = {833, 833, 0, 0, 166};
        for (int w = 0; w < one.length; w++) {
            Check.due("odds of a tray with b", x.word(w, 6), one[w]);
        }
        x = Check.tray("ab", "w0ab;w0abc;", 2);
        Check.due("odds of an empty bag, if it can", x.word(0, 6), 1000);
        Check.due("odds of an empty bag, if it cannot", x.word(1, 6), 0);
        x = Check.tray("a*", "w0abc;w0ab;w0abcd;", 3);
        Check.due("give(0)", x.give(0), 1);
        Check.due("odds with a blank: only a is in the bag", x.word(1, 6), 1000);
        Check.due("odds with two too many missing", x.word(0, 6), 0);
    }

    private static void promise8() {
        LetterTray x = Check.game(Check.VALUES + "w0a;w1hgfedc;", 2);
        Check.due("spelt(0, 0)", x.spelt(0, 0), 0);
        for (int k = 1; k <= 5; k++) {
            Check.due("spelt(0, k)", x.spelt(0, k), Check.NONE);
        }
        for (int k = 0; k <= 5; k++) {
            Check.due("spelt(1, k)", x.spelt(1, k), 7 - k);
        }
        Check.due("spelt(1, 6)", x.spelt(1, 6), Check.OUTSIDE);
        Check.due("spelt(1, -1)", x.spelt(1, -1), Check.OUTSIDE);
        Check.due("spelt(2, -1)", x.spelt(2, -1), Check.UNKNOWN);
        Check.due("spelt(-1, 0)", x.spelt(-1, 0), Check.UNKNOWN);
    }

    private static void promise9() {
        LetterTray x = Check.tray("ab**cab", "w0baba;w0abc;w0aab;", 3);
        Check.due("lay(2)", x.lay(2), 5);
        Check.due("lay(0)", x.lay(0), Check.NOT);
        Check.due("lay(1)", x.lay(1), 11);
        Check.due("laid(0, 0)", x.laid(0, 0), 2);
        Check.due("laid(0, 1)", x.laid(0, 1), 0);
        Check.due("laid(1, 0)", x.laid(1, 0), 1);
        Check.due("laid(1, 1): a is a blank", x.laid(1, 1), 1);
        Check.due("laid(2, 0)", x.laid(2, 0), Check.UNKNOWN);
        Check.due("laid(-1, 5)", x.laid(-1, 5), Check.UNKNOWN);
        Check.due("laid(0, 2)", x.laid(0, 2), Check.OUTSIDE);
        Check.due("laid(0, -1)", x.laid(0, -1), Check.OUTSIDE);
        x = Check.tray("a**", "w0aca;", 1);
        Check.due("lay(0)", x.lay(0), 4);
        Check.due("laid(0, 1): letter by letter", x.laid(0, 1), 6);
    }
}
