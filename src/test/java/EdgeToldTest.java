import java.util.function.Supplier;

/** The boundary cases of promises 5 to 9: what is told of the game, of letters, of words, of the table. */
public final class EdgeToldTest {
    private static final String V = Check.VALUES;
    private static final int LEAST = Integer.MIN_VALUE;
    private static final int GREATEST = Integer.MAX_VALUE;
    private static final Supplier<LetterTray> RICH = () -> Games.rich("v1,2");
    private static final String TEN_ONES = "w0a;w0b;w0c;w0d;w0e;w0f;w0g;w0h;w0aa;w0bb;";
    /** From each to the next one letter is changed, and no way is shorter. */
    private static final String CHAIN = "w0aaaaaa;w0aaaaab;w0aaaabb;w0aaabbb;w0aabbbb;w0abbbbb;w0bbbbbb;w0bbbbbc;"
            + "w0bbbbcc;w0bbbccc;";

    public static void main(String[] args) {
        promise5What();
        promise5Game();
        promise5Words();
        promise5Counts();
        promise5Can();
        promise5Best();
        promise5All();
        promise5FromNow();
        promise5FromNowAlike();
        promise5MostMany();
        promise5Unused();
        promise5Farthest();
        promise5Said();
        promise5Undone();
        promise6Letter();
        promise6What();
        promise6Value();
        promise6EmptyAndFull();
        promise7Unknown();
        promise7Outside();
        promise7Worth();
        promise7Missing();
        promise7Kin();
        promise7Inside();
        promise7Odds();
        promise7OddsCut();
        promise8Bounds();
        promise8None();
        promise9Unknown();
        promise9Outside();
        promise9Blanks();
        nothingChanges();
        Check.close();
    }

    private static void promise5What() {
        Check.promise(5, "0 .. 17: OUTSIDE");
        LetterTray x = RICH.get();
        Check.due("told(0)", x.told(0), 1);
        Check.due("told(17)", x.told(17), 8);
        for (int what : new int[] {-1, 18, LEAST, GREATEST, 256, -18}) {
            Whole.refused("told(" + what + ")", Check.OUTSIDE, RICH, y -> y.told(what));
        }
    }

    private static void promise5Game() {
        Check.promise(5, "0 1 there is a GAME, 0 not");
        LetterTray x = new LetterTray();
        Check.due("told(0)", x.told(0), 0);
        Games.feed(x, V);
        Check.due("told(0) of a text that is fed", x.told(0), 0);
        x.game();
        Check.due("told(0)", x.told(0), 1);
        x.game();
        Check.due("told(0) behind an empty text", x.told(0), 0);
    }

    private static void promise5Words() {
        Check.promise(5, "1 WORDS, 2 letters of THE TEXT");
        Check.due("no word", Games.told(V).told(1), 0);
        LetterTray x = Games.told(V + TEN_ONES);
        Check.due("ten words", x.told(1), 10);
        Check.due("no letter", x.told(2), 0);
        Games.feed(x, " ".repeat(240));
        Check.due("240 letters", x.told(2), 240);
    }

    private static void promise5Counts() {
        Check.promise(5, "3 how many THE BAG holds, 4 THE TRAY, 5 LAID ones, 6 SCORE, 7 TURNS");
        LetterTray x = Games.told(V + "b" + "a".repeat(40) + ";w0a;");
        Check.due("a bag of 40", x.told(3), 40);
        for (int i = 1; i <= 12; i++) {
            x.draw();
            Check.due("THE BAG", x.told(3), 40 - i);
            Check.due("THE TRAY", x.told(4), i);
            Check.due("TURNS", x.told(7), i);
        }
        for (int i = 1; i <= 8; i++) {
            x.lay(0);
            Check.due("LAID", x.told(5), i);
            Check.due("SCORE", x.told(6), i);
            Check.due("THE TRAY", x.told(4), 12 - i);
            Check.due("THE BAG: what is laid is not in it", x.told(3), 28);
            Check.due("TURNS", x.told(7), 12 + i);
        }
        x = Games.laid(Games.tray("aaaa", "w0a;"), 0, 4);
        Check.due("an empty bag", x.told(3), 0);
        Check.due("an empty tray", x.told(4), 0);
    }

    private static void promise5Can() {
        Check.promise(5, "8 CAN: no more MISSING than THE TRAY has BLANKS (room on THE TABLE or not)");
        String words = "w0a;w0ab;w0abc;w0abcd;w0abcde;w0abcdef;w0h;w0hh;w0hhh;w0hhhh;";
        Check.due("an empty tray", Games.told(V + words).told(8), 0);
        Check.due("no blank", Games.tray("a", words).told(8), 1);
        Check.due("one blank", Games.tray("a*", words).told(8), 0b0001000011);
        Check.due("two blanks", Games.tray("a**", words).told(8), 0b0011000111);
        Check.due("all ten", Games.tray("a*****", words).told(8), 0b1111111111);
        Check.due("four blanks", Games.tray("****", words).told(8), 0b1111001111);
        LetterTray x = Games.laid(Games.tray("aaaaaaaaab", "w0a;w0b;w0c;"), 0, 8);
        Check.due("a full table", x.told(8), 3);
    }

    private static void promise5Best() {
        Check.promise(5, "9 BEST: of those that with most WORTH; of like ones the least; NONE");
        Check.due("no game", new LetterTray().told(9), Check.NONE);
        Check.due("no word", Games.tray("a", "").told(9), Check.NONE);
        Check.due("none can", Games.tray("a", "w0b;w0aa;").told(9), Check.NONE);
        Check.due("the only one", Games.tray("a", "w0b;w0a;").told(9), 1);
        Check.due("like ones", Games.tray("abh", "w0c;w0h;w0ha;w0b;").told(9), 2);
        Check.due("like ones, the first", Games.tray("ab", "w0aa;w0ab;w0ba;").told(9), 1);
        Check.due("the last of ten", Games.tray("bb", TEN_ONES).told(9), 9);
        Check.due("the first of ten", Games.tray("a", TEN_ONES).told(9), 0);
        Check.due("one that is worth more, but cannot", Games.tray("a", "w0g;w0a;").told(9), 1);
    }

    private static void promise5All() {
        Check.promise(5, "10 ALL: how many ROWS use up all that THE TRAY holds (one that is empty: 1, the empty ROW)");
        Check.due("no game", new LetterTray().told(10), 1);
        Check.due("an empty tray", Games.told(V + "ba;w0a;").told(10), 1);
        Check.due("no word", Games.tray("a", "").told(10), 0);
        Check.due("one is left over", Games.tray("ab", "w0a;").told(10), 0);
        Check.due("a blank is left over", Games.tray("aa*", "w0aa;").told(10), 0);
        Check.due("a blank is used", Games.tray("aa*", "w0aaa;").told(10), 1);
        Check.due("in no order", Games.tray("ab", "w0a;w0b;").told(10), 1);
        Check.due("each any number of times", Games.tray("aaaaaaaaaaaa", "w0a;").told(10), 1);
        Check.due("twelve blanks, ten words", Games.tray("************", TEN_ONES).told(10), 117326);
        LetterTray x = Games.laid(Games.tray("aaaaaaaaa", "w0a;"), 0, 8);
        Check.due("no room on the table", x.told(10), 1);
        x = Games.tray("aabbccdefgh*", "w0a;w0b;w0c;w0d;w0e;w0f;w0g;w0h;w0gh;w0ggg;");
        Check.due("a tray of as many sorts as can be", x.told(10), 16);
        Check.due("its MOST", x.told(11), 36);
    }

    /** A deed between, and what is tried is another thing; asked before or not. */
    private static void promise5FromNow() {
        Check.promise(5, "TRIED from now");
        LetterTray x = Games.tray("aabb", "w0ab;w0a;w0b;");
        int[] all = {3, 2, 1, 1};
        for (int i = 0; i < all.length; i++) {
            Check.due("ALL", x.told(10), all[i]);
            Check.due("MOST", x.told(11), new int[] {8, 4, 1, 0}[i]);
            Check.due("first(0)", x.first(0), new int[] {0, 0, 1, Check.NONE}[i]);
            x.lay(new int[] {0, 2, 1, 0}[i]);
        }
        Whole.alike("asked between deeds", () -> driftAsking(true), () -> driftAsking(false));
    }

    /** Trays alike in their number, their letters or in nothing: each is tried for itself. */
    private static void promise5FromNowAlike() {
        Check.promise(5, "TRIED from now: another TRAY of as many");
        LetterTray x = Games.told(V + "bab;w0a;");
        x.seed(Games.seedFor(2, 0));
        Check.due("draw()", x.draw(), 0);
        Check.due("ALL of a", x.told(10), 1);
        Check.due("MOST of a", x.told(11), 1);
        x.seed(Games.seedFor(2, 1));
        Check.due("change(0)", x.change(0), 1);
        Check.due("ALL of b", x.told(10), 0);
        Check.due("MOST of b", x.told(11), 0);
        Check.due("MANY of b", x.told(12), 0);
        Check.due("first(0) of b", x.first(0), Check.NONE);
        Check.promise(5, "TRIED from now: a BLANK more, a BLANK less");
        x = Games.tray("a*", "w0ab;w0a;");
        Check.due("MOST of a*", x.told(11), 4);
        x.give(8);
        Check.due("MOST of a", x.told(11), 1);
        x.draw();
        Check.due("MOST of a* again", x.told(11), 4);
        Check.promise(5, "TRIED from now: of each one, then of none");
        x = Games.tray("abcdefgh*", "w0a;");
        Check.due("MOST", x.told(11), 2);
        for (int letter = 0; letter <= 8; letter++) {
            x.give(letter);
        }
        Check.due("MOST of none", x.told(11), 0);
        Check.due("ALL of none", x.told(10), 1);
    }

    private static LetterTray driftAsking(boolean asking) {
        LetterTray x = Games.rich("");
        for (int i = 0; i < 15; i++) {
            x.drift(1);
            for (int what = 8; asking && what <= 12; what++) {
                x.told(what);
            }
        }
        x.undo(3);
        return x;
    }

    private static void promise5MostMany() {
        Check.promise(5, "11 MOST: the most WORTH of a ROW (0: the empty one), 12 MANY: the fewest WORDS");
        LetterTray x = Games.told(V + "ba;w0a;");
        Check.due("MOST of an empty tray", x.told(11), 0);
        Check.due("MANY of an empty tray", x.told(12), 0);
        x = Games.tray("ab", "w0c;");
        Check.due("MOST, if none can", x.told(11), 0);
        Check.due("MANY, if none can", x.told(12), 0);
        x = Games.drawn("v9,9,9,9,9,9,9,9;b************;w3aaaaaa;w3bbbbbb;w3a;", 12);
        Check.due("MOST that can be", x.told(11), 324);
        Check.due("MANY: the fewest", x.told(12), 2);
        x = Games.tray("************", "w0a;");
        Check.due("MANY: twelve", x.told(12), 12);
        Check.due("MOST of twelve", x.told(11), 12);
        x = Games.tray("aab", "w0ab;");
        Check.due("MOST: not all are used", x.told(11), 4);
        x = Games.drawn("v1,1,1,1,1,1,1,1;baa*;w2a;w2aa;", 3);
        Check.due("MOST of many short ones", x.told(11), 18);
        Check.due("MANY of many short ones", x.told(12), 3);
    }

    private static void promise5Unused() {
        Check.promise(5, "13 UNUSED: LETTERS (a SET of 8 bits) that are in no WORD");
        Check.due("no game", new LetterTray().told(13), 255);
        Check.due("no word", Games.told(V + "babcdefgh;").told(13), 255);
        Check.due("a alone is used", Games.told(V + "w0a;").told(13), 254);
        Check.due("h alone is used", Games.told(V + "w0h;").told(13), 127);
        Check.due("all are used", Games.told(V + "w0abcdef;w0gh;").told(13), 0);
        Check.due("all but d are used", Games.told(V + "w0abcefg;w0h;").told(13), 8);
    }

    private static void promise5Farthest() {
        Check.promise(5, "14 FARTHEST: the most STEPS of a shortest LADDER that there is between two WORDS; 0");
        Check.due("no word", Games.told(V).told(14), 0);
        Check.due("one word", Games.told(V + "w0a;").told(14), 0);
        Check.due("no ladder", Games.told(V + "w0a;w0bb;").told(14), 0);
        Check.due("one step", Games.told(V + "w0a;w0b;").told(14), 1);
        Check.due("nine steps", Games.told(V + CHAIN).told(14), 9);
    }

    private static void promise5Said() {
        Check.promise(5, "15 what is SAID, 16 entries of THE BOOK");
        LetterTray x = Games.told(Games.TEN);
        Check.due("nothing said", x.told(15), 0);
        Check.due("no book", x.told(16), 0);
        for (int i = 0; i < 6; i++) {
            x.say(0, 0, 0);
        }
        for (int i = 0; i < 20; i++) {
            x.write(0, 0);
        }
        Check.due("all said", x.told(15), 6);
        Check.due("a full book", x.told(16), 20);
    }

    private static void promise5Undone() {
        Check.promise(5, "17 how many can be undone (30 at most)");
        LetterTray x = Games.told(V + "baaa;");
        Check.due("none", x.told(17), 0);
        x.draw();
        Check.due("one", x.told(17), 1);
        for (int i = 2; i <= 29; i++) {
            x.change(0);
        }
        Check.due("29", x.told(17), 29);
        x.change(0);
        Check.due("30", x.told(17), 30);
        x.change(0);
        Check.due("30 of 31", x.told(17), 30);
    }

    private static void promise6Letter() {
        Check.promise(6, "How many of a LETTER (0 .. 7), of BLANKS (8): OUTSIDE");
        LetterTray x = Games.told(V + "bah*;");
        Check.due("letters(0, 0)", x.letters(0, 0), 1);
        Check.due("letters(7, 0)", x.letters(7, 0), 1);
        Check.due("letters(8, 0)", x.letters(8, 0), 1);
        for (int letter : new int[] {-1, 9, LEAST, GREATEST}) {
            for (int what = 0; what <= 2; what++) {
                int kind = what;
                Whole.refused("letters(" + letter + ", " + what + ")", Check.OUTSIDE, RICH, y -> y.letters(letter, kind));
            }
        }
    }

    private static void promise6What() {
        Check.promise(6, "what = 0 .. 2: OUTSIDE");
        for (int what : new int[] {-1, 3, LEAST, GREATEST}) {
            for (int letter : new int[] {0, 8, 9, -1}) {
                Whole.refused("letters(" + letter + ", " + what + ")", Check.OUTSIDE, RICH, y -> y.letters(letter, what));
            }
        }
    }

    private static void promise6Value() {
        Check.promise(6, "2 VALUE (0 of a BLANK)");
        LetterTray x = Games.told("v1,2,3,4,5,6,7,9;b*;");
        Check.due("value of a", x.letters(0, 2), 1);
        Check.due("value of h", x.letters(7, 2), 9);
        Check.due("value of a blank", x.letters(8, 2), 0);
    }

    private static void promise6EmptyAndFull() {
        Check.promise(6, "what = 0 THE BAG holds, 1 THE TRAY: empty and full");
        LetterTray x = Games.told(V + "b" + "*".repeat(40) + ";");
        Check.due("a bag of 40 blanks", x.letters(8, 0), 40);
        Check.due("an empty tray", x.letters(8, 1), 0);
        for (int i = 0; i < 12; i++) {
            x.draw();
        }
        Check.due("a bag of 28 blanks", x.letters(8, 0), 28);
        Check.due("a tray of 12 blanks", x.letters(8, 1), 12);
        x = Games.tray("a", "");
        Check.due("an empty bag", x.letters(0, 0), 0);
        Check.due("a tray of one", x.letters(0, 1), 1);
    }

    private static void promise7Unknown() {
        Check.promise(7, "Of a WORD: UNKNOWN");
        LetterTray x = Games.told(V + TEN_ONES);
        Check.due("word(0, 1) of ten", x.word(0, 1), 1);
        Check.due("word(9, 1) of ten", x.word(9, 1), 2);
        x = Games.told(V + "w0a;");
        Check.due("word(0, 1) of one", x.word(0, 1), 1);
        Check.due("word(1, 1) of one", x.word(1, 1), Check.UNKNOWN);
        for (int w : new int[] {-1, 10, LEAST, GREATEST}) {
            Whole.refused("word(" + w + ", 0)", Check.UNKNOWN, RICH, y -> y.word(w, 0));
            Whole.refused("word(" + w + ", 6)", Check.UNKNOWN, RICH, y -> y.word(w, 6));
        }
        Check.promise(7, "UNKNOWN, OUTSIDE: UNKNOWN first");
        Whole.refused("word(10, 7)", Check.UNKNOWN, RICH, y -> y.word(10, 7));
        Whole.refused("word(-1, -1)", Check.UNKNOWN, RICH, y -> y.word(-1, -1));
    }

    private static void promise7Outside() {
        Check.promise(7, "what = 0 .. 6: OUTSIDE");
        LetterTray x = Games.told(V + TEN_ONES);
        Check.due("word(9, 0)", x.word(9, 0), 0);
        Check.due("word(9, 6)", x.word(9, 6), 0);
        for (int what : new int[] {-1, 7, LEAST, GREATEST}) {
            Whole.refused("word(0, " + what + ")", Check.OUTSIDE, RICH, y -> y.word(0, what));
            Whole.refused("word(9, " + what + ")", Check.OUTSIDE, RICH, y -> y.word(9, what));
        }
    }

    private static void worth(String kindAndLetters, int due) {
        Check.due("worth of " + kindAndLetters, Games.told("v1,2,3,4,5,6,7,9;w" + kindAndLetters + ";").word(0, 2), due);
    }

    private static void promise7Worth() {
        Check.promise(7, "2 WORTH: KIND 0 (plain): SUM. 1 (rare): twice");
        worth("0a", 1);
        worth("0hhhhhh", 54);
        worth("1a", 2);
        worth("1hhhhhh", 108);
        Check.promise(7, "2 (short): SUM, and 5 more, if it has three LETTERS or fewer");
        worth("2a", 6);
        worth("2aa", 7);
        worth("2aaa", 8);
        worth("2aaaa", 4);
        worth("2aaaaaa", 6);
        Check.promise(7, "3: thrice, if it reads alike from behind, else SUM");
        worth("3b", 6);
        worth("3aa", 6);
        worth("3ab", 3);
        worth("3aba", 12);
        worth("3abb", 5);
        worth("3abba", 18);
        worth("3abab", 6);
        worth("3abca", 7);
        worth("3abcba", 27);
        worth("3abcaa", 8);
        worth("3bbcba", 10);
        worth("3abccba", 36);
        worth("3abcdba", 13);
        worth("3hhhhhh", 162);
        worth("0aba", 4);
        worth("1aba", 8);
        Check.promise(7, "a BLANK is worth what it stands for");
        LetterTray x = Games.tray("**", "w0gh;");
        Check.due("lay(0)", x.lay(0), 8);
        Check.due("word(0, 2)", x.word(0, 2), 8);
    }

    private static void promise7Missing() {
        Check.promise(7, "3 MISSING: how many of its LETTERS THE TRAY has not (each as often as it is in it; BLANKS no matter)");
        Check.due("an empty tray", Games.told(V + "w0aabbcc;").word(0, 3), 6);
        String tray = "";
        String letters = "aabbcc";
        for (int i = 0; i < 6; i++) {
            tray += letters.charAt(i);
            Check.due("a tray of " + tray, Games.tray(tray, "w0aabbcc;").word(0, 3), 5 - i);
        }
        Check.due("more than are needed", Games.tray("aaaaaaaaaaaa", "w0aab;").word(0, 3), 1);
        Check.due("blanks", Games.tray("************", "w0aab;").word(0, 3), 3);
    }

    private static void promise7Kin() {
        Check.promise(7, "4 KIN: WORDS (a SET, itself, too) that have the same LETTERS as often");
        Check.due("itself alone", Games.told(V + "w0a;").word(0, 4), 1);
        LetterTray x = Games.told(V + "w0abc;w0acb;w0bac;w0bca;w0cab;w0cba;w0aabc;w0ab;w0aab;w0abb;");
        Check.due("six of them", x.word(0, 4), 63);
        Check.due("six of them", x.word(5, 4), 63);
        Check.due("as often", x.word(8, 4), 256);
        Check.due("as often", x.word(9, 4), 512);
        x = Games.told(V + "w0ab;" + TEN_ONES.substring(0, 32) + "w0ba;");
        Check.due("bits 0 and 9", x.word(0, 4), 513);
        Check.due("bits 0 and 9", x.word(9, 4), 513);
        x = Games.told(V + "w0gh;w0hg;w0gg;w0hh;");
        Check.due("kin of gh, the last letter", x.word(0, 4), 3);
        Check.due("kin of hh, the last letter", x.word(3, 4), 8);
    }

    private static void promise7Inside() {
        Check.promise(7, "5 INSIDE: WORDS (a SET, not itself) all LETTERS of which it has as often at least");
        Check.due("not itself", Games.told(V + "w0a;").word(0, 5), 0);
        LetterTray x = Games.told(V + "w0aab;w0a;w0aa;w0aaa;w0ab;w0ba;w0abb;w0aba;w0c;w0b;");
        Check.due("inside aab", x.word(0, 5), 0b1010110110);
        Check.due("inside a", x.word(1, 5), 0);
        Check.due("inside aaa", x.word(3, 5), 0b0000000110);
        Check.due("inside b: kin of none", x.word(9, 5), 0);
        Check.due("inside aba: its kin", x.word(7, 5), 0b1000110111);
        x = Games.told(V + "w0hhg;w0h;w0hh;w0hhh;w0gg;");
        Check.due("inside hhg, the last letter", x.word(0, 5), 6);
    }

    private static void promise7Odds() {
        Check.promise(7, "6 ODDS: 1000, if it can now; 0 of an empty BAG else");
        LetterTray x = Games.tray("ab", "w0ab;w0abc;");
        Check.due("it can, the bag is empty", x.word(0, 6), 1000);
        Check.due("it cannot, the bag is empty", x.word(1, 6), 0);
        Check.due("no bag, no tray", Games.told(V + "w0a;").word(0, 6), 0);
        x = Games.told(V + "baaaa;w0a;w0b;");
        Check.due("all of the bag", x.word(0, 6), 1000);
        Check.due("none of the bag", x.word(1, 6), 0);
        x = Games.told(V + "b****;w0a;w0ab;");
        Check.due("blanks", x.word(0, 6), 1000);
        Check.due("one is not enough for two", x.word(1, 6), 0);
        Check.promise(7, "6 ODDS: room on THE TABLE or not, in THE TRAY or not");
        x = Games.laid(Games.drawn(V + "b" + "a".repeat(21) + ";w0a;w0b;", 12), 0, 8);
        Check.due("a full table", x.word(0, 6), 1000);
        x = Games.told(V + "b" + "a".repeat(12) + "bc;w0a;w0b;w0c;w0d;w0bc;");
        for (int left = 14; left > 2; left--) {
            x.seed(Games.seedFor(left, 0));
            Check.due("draw() of the first", x.draw(), 0);
        }
        Check.due("a full tray", x.told(4), 12);
        int[] due = {1000, 500, 500, 0, 0};
        for (int w = 0; w < due.length; w++) {
            Check.due("a full tray: word(" + w + ", 6)", x.word(w, 6), due[w]);
        }
        Check.promise(7, "6 ODDS with BLANKS in THE TRAY: one more than they are may be MISSING, not two");
        x = Games.tray("a*b", "w0ac;w0acd;w0acde;");
        x.give(1);
        Check.due("none too many", x.word(0, 6), 1000);
        Check.due("one too many, a b does not help", x.word(1, 6), 0);
        x = Games.tray("a*c", "w0ac;w0acd;w0acde;");
        x.give(2);
        Check.due("one too many", x.word(1, 6), 1000);
        Check.due("two too many", x.word(2, 6), 0);
    }

    private static void promise7OddsCut() {
        Check.promise(7, "6 ODDS: a thousand times how many such THE BAG holds, by all it holds (cut)");
        String[] bags = {"abb", "aab", "a*b", "abbbbb", "a" + "b".repeat(39), "a".repeat(39) + "b", "abbbbbbbbb"};
        int[] due = {333, 666, 666, 166, 25, 975, 100};
        for (int i = 0; i < bags.length; i++) {
            Check.due("odds of " + bags[i], Games.told(V + "b" + bags[i] + ";w0a;").word(0, 6), due[i]);
        }
        LetterTray x = Games.told(V + "baabbccc;w0ab;w0aab;");
        x.seed(Games.seedFor(7, 0));
        Check.due("draw()", x.draw(), 0);
        Check.due("b alone helps", x.word(0, 6), 333);
        x.seed(Games.seedFor(6, 0));
        Check.due("draw()", x.draw(), 0);
        Check.due("b helps aab", x.word(1, 6), 400);
        for (int letter = 0; letter <= 7; letter++) {
            char sign = (char) ('a' + letter);
            x = Games.told(V + "babcdefgh;w0" + sign + ";");
            Check.due("odds of " + sign + " out of one of each", x.word(0, 6), 125);
        }
    }

    private static void promise8Bounds() {
        Check.promise(8, "LETTER k (0 .. 5) of a WORD: UNKNOWN, OUTSIDE");
        LetterTray x = Games.told(V + "w0habcdg;");
        Check.due("spelt(0, 0)", x.spelt(0, 0), 7);
        Check.due("spelt(0, 5)", x.spelt(0, 5), 6);
        for (int k : new int[] {-1, 6, LEAST, GREATEST}) {
            Whole.refused("spelt(9, " + k + ")", Check.OUTSIDE, RICH, y -> y.spelt(9, k));
            Whole.refused("spelt(8, " + k + ")", Check.OUTSIDE, RICH, y -> y.spelt(8, k));
        }
        for (int w : new int[] {-1, 10, LEAST, GREATEST}) {
            Whole.refused("spelt(" + w + ", 0)", Check.UNKNOWN, RICH, y -> y.spelt(w, 0));
            Whole.refused("spelt(" + w + ", 6), UNKNOWN first", Check.UNKNOWN, RICH, y -> y.spelt(w, 6));
        }
        Check.due("spelt(9, 0) of ten", RICH.get().spelt(9, 0), 0);
        Check.due("spelt(1, 0) of one", x.spelt(1, 0), Check.UNKNOWN);
    }

    private static void promise8None() {
        Check.promise(8, "NONE");
        LetterTray x = Games.told(V + "w0aaaaaa;w0b;w0cc;w0ddddd;");
        Check.due("spelt(0, 5) of six", x.spelt(0, 5), 0);
        Check.due("spelt(1, 0) of one", x.spelt(1, 0), 1);
        Check.due("spelt(1, 1) of one", x.spelt(1, 1), Check.NONE);
        Check.due("spelt(1, 5) of one", x.spelt(1, 5), Check.NONE);
        Check.due("spelt(2, 1) of two", x.spelt(2, 1), 2);
        Check.due("spelt(2, 2) of two", x.spelt(2, 2), Check.NONE);
        Check.due("spelt(3, 4) of five", x.spelt(3, 4), 3);
        Check.due("spelt(3, 5) of five", x.spelt(3, 5), Check.NONE);
        Games.feed(x, V + "w0h;");
        x.game();
        Check.due("spelt(0, 1): nothing of the earlier game", x.spelt(0, 1), Check.NONE);
    }

    private static void promise9Unknown() {
        Check.promise(9, "Of a LAID one: UNKNOWN");
        LetterTray x = Games.tray("aaaaaaaaaa", "w0a;w0aa;");
        Check.due("laid(0, 0) of none", x.laid(0, 0), Check.UNKNOWN);
        for (int i = 0; i < 8; i++) {
            Check.due("laid(" + i + ", 0) ahead", x.laid(i, 0), Check.UNKNOWN);
            x.lay(i == 7 ? 1 : 0);
            Check.due("laid(" + i + ", 0)", x.laid(i, 0), i == 7 ? 1 : 0);
        }
        Check.due("laid(8, 0) of eight", x.laid(8, 0), Check.UNKNOWN);
        x.take(0);
        Check.due("laid(7, 0) of seven", x.laid(7, 0), Check.UNKNOWN);
        Check.due("laid(6, 0) of seven", x.laid(6, 0), 1);
        for (int i : new int[] {-1, 2, 8, LEAST, GREATEST}) {
            Whole.refused("laid(" + i + ", 0)", Check.UNKNOWN, RICH, y -> y.laid(i, 0));
            Whole.refused("laid(" + i + ", 2), UNKNOWN first", Check.UNKNOWN, RICH, y -> y.laid(i, 2));
        }
    }

    private static void promise9Outside() {
        Check.promise(9, "what = 0 .. 1: OUTSIDE");
        for (int what : new int[] {-1, 2, LEAST, GREATEST}) {
            Whole.refused("laid(0, " + what + ")", Check.OUTSIDE, RICH, y -> y.laid(0, what));
            Whole.refused("laid(1, " + what + ")", Check.OUTSIDE, RICH, y -> y.laid(1, what));
        }
    }

    private static void blanks(String tray, String word, int due) {
        LetterTray x = Games.tray(tray, "w0" + word + ";");
        Check.due("lay(0)", x.lay(0) > 0 ? 1 : 0, 1);
        Check.due("blanks of " + word + " out of " + tray, x.laid(0, 1), due);
    }

    private static void promise9Blanks() {
        Check.promise(9, "which of its LETTERS are BLANKS (a SET of places)");
        blanks("abcdef", "abcdef", 0);
        blanks("abcdef******", "abcdef", 0);
        blanks("******", "abcdef", 63);
        blanks("bcdef*", "abcdef", 1);
        blanks("abcde*", "abcdef", 32);
        blanks("a*", "aa", 2);
        blanks("aa**", "abaa", 10);
        blanks("b***", "abba", 13);
    }

    /** All that is asked on every object: section 3, 'nothing changes by it'. */
    private static void nothingChanges() {
        for (int what = 0; what <= 17; what++) {
            int k = what;
            Check.promise(5, "TRIED: nothing changes by it");
            Whole.unchanged("told(" + k + ")", RICH, x -> x.told(k));
            Check.promise(18, "TRIED: nothing changes by it");
            Whole.unchanged("first(" + k + ")", RICH, x -> x.first(k));
        }
        for (int what = 0; what <= 6; what++) {
            int k = what;
            Check.promise(7, "TRIED: nothing changes by it");
            Whole.unchanged("word(5, " + k + ")", RICH, x -> x.word(5, k));
        }
        Check.promise(4, "nothing changes by it");
        Whole.unchanged("fault()", RICH, LetterTray::fault);
        Check.promise(6, "nothing changes by it");
        Whole.unchanged("letters(8, 1)", RICH, x -> x.letters(8, 1));
        Check.promise(8, "nothing changes by it");
        Whole.unchanged("spelt(9, 5)", RICH, x -> x.spelt(9, 5));
        Check.promise(9, "nothing changes by it");
        Whole.unchanged("laid(1, 1)", RICH, x -> x.laid(1, 1));
        Check.promise(17, "TRIED: nothing changes by it");
        Whole.unchanged("needs(9, 7)", RICH, x -> x.needs(9, 7));
        Check.promise(19, "TRIED: nothing changes by it");
        Whole.unchanged("ladder(0, 9, 1)", RICH, x -> x.ladder(0, 9, 1));
        Check.promise(20, "TRIED: nothing changes by it");
        Whole.unchanged("far(0, 9)", RICH, x -> x.far(0, 9));
        Check.promise(21, "TRIED: nothing changes by it");
        Whole.unchanged("right(0, 9, 1)", RICH, x -> x.right(0, 9, 1));
        Check.promise(22, "TRIED: nothing changes by it");
        Whole.unchanged("luck(60, 99)", RICH, x -> x.luck(60, 99));
        Check.promise(24, "TRIED: nothing changes by it");
        Whole.unchanged("couldBe()", RICH, LetterTray::couldBe);
        Check.promise(25, "TRIED: nothing changes by it");
        Whole.unchanged("ask()", RICH, LetterTray::ask);
        Check.promise(27, "TRIED: nothing changes by it");
        Whole.unchanged("judge()", RICH, LetterTray::judge);
    }
}
