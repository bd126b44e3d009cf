import java.util.function.Supplier;
import java.util.function.ToIntFunction;

/** The boundary cases of promises 10 to 16: the deeds, those by draws, those undone. */
public final class EdgeDeedsTest {
    private static final String V = Check.VALUES;
    private static final int LEAST = Integer.MIN_VALUE;
    private static final int GREATEST = Integer.MAX_VALUE;
    private static final Supplier<LetterTray> RICH = () -> Games.rich("v1,2");
    private static final Supplier<LetterTray> LATE = () -> Games.atTurns(90000);

    public static void main(String[] args) {
        promise10Empty();
        promise10Full();
        promise10Order();
        promise10FirstAndLast();
        promise10ComesRound();
        promise11Outside();
        promise11Not();
        promise11HowMany();
        promise12Outside();
        promise12Not();
        promise12FullAndEmpty();
        promise13Unknown();
        promise13Not();
        promise13Full();
        promise13Blanks();
        promise14Unknown();
        promise14Full();
        promise14Numbers();
        promise14Blanks();
        promise15Outside();
        promise15Not();
        promise15Times();
        promise15Drawn();
        promise15GivenBack();
        promise15Laid();
        promise15TakenBack();
        promise16Outside();
        promise16Not();
        promise16Kept();
        promise16ComesRound();
        promise16Since();
        promise16Times();
        promise16Whole();
        promise16Eighth();
        turnsLate();
        turnsLast();
        Check.close();
    }

    private static void promise10Empty() {
        Check.promise(10, "NOT: THE BAG is empty");
        LetterTray x = Games.told(V + "bh;");
        Check.due("draw() of one", x.draw(), 7);
        Check.due("draw() of none", x.draw(), Check.NOT);
        Supplier<LetterTray> empty = () -> {
            LetterTray y = Games.tray("aabb*", "w0ab;w0abc;");
            y.seed(5);
            y.lay(1);
            return y;
        };
        Whole.refused("draw() of an empty bag", Check.NOT, empty, LetterTray::draw);
        Supplier<LetterTray> noBag = () -> Games.told(V + "w0ab;");
        Whole.refused("draw() of no bag", Check.NOT, noBag, LetterTray::draw);
        x = empty.get();
        x.draw();
        Check.due("a refused draw leaves the seed", x.seed(0), 5);
    }

    private static void promise10Full() {
        Check.promise(10, "FULL: THE TRAY holds 12");
        LetterTray x = Games.drawn(V + "b" + "a".repeat(13) + ";w0a;", 11);
        Check.due("draw() of a 12th", x.draw(), 0);
        Check.due("THE TRAY", x.told(4), 12);
        Supplier<LetterTray> full = () -> {
            LetterTray y = Games.drawn(V + "b" + "a".repeat(11) + "**;w0ab;w0a;", 12);
            y.seed(5);
            return y;
        };
        Whole.refused("draw() of a 13th", Check.FULL, full, LetterTray::draw);
        x = full.get();
        x.draw();
        Check.due("a refused draw leaves the seed", x.seed(0), 5);
        x.lay(1);
        Check.due("draw() when there is room again", x.draw() >= 0 ? 1 : 0, 1);
    }

    private static void promise10Order() {
        Check.promise(10, "NOT: THE BAG is empty; FULL: THE TRAY holds 12: NOT first");
        Whole.refused("draw()", Check.NOT, () -> Games.tray("abcdefgh****", "w0ab;"), LetterTray::draw);
    }

    private static void promise10FirstAndLast() {
        Check.promise(10, "counted through from a on, BLANKS last, a DRAW of as many");
        int[] due = {0, 0, 2, 3, 3, 7, 8, 8};
        for (int i = 0; i < due.length; i++) {
            LetterTray x = Games.told(V + "baacddh**;");
            x.seed(Games.seedFor(8, i));
            Check.due("draw() on " + i, x.draw(), due[i]);
            Check.due("THE BAG", x.told(3), 7);
            Check.due("THE TRAY", x.letters(due[i], 1), 1);
        }
    }

    private static void promise10ComesRound() {
        Check.promise(10, "THE SEED: it times 1103515245 and 12345, left over by 2 to the 31");
        long[] starts = {0, 1, 2, 65535, 65536, 1073741823, 1073741824, 2147483646, 2147483647};
        for (long start : starts) {
            long[] seed = {start};
            LetterTray x = Games.told(V + "baabbccddeeffgghh**;");
            x.seed((int) start);
            int at = Games.drawOf(seed, 18);
            Check.due("draw() from " + start, x.draw(), at / 2);
            Check.due("the seed behind a draw from " + start, x.seed(0), seed[0]);
        }
        LetterTray x = Games.told(V + "ba;");
        x.draw();
        Check.due("the seed behind a draw from 0", x.seed(0), 12345);
    }

    private static void promise11Outside() {
        Check.promise(11, "GIVEN BACK (0 .. 8): OUTSIDE");
        LetterTray x = Games.tray("a*", "");
        Check.due("give(0)", x.give(0), 1);
        Check.due("give(8)", x.give(8), 0);
        for (int letter : new int[] {-1, 9, LEAST, GREATEST}) {
            Whole.refused("give(" + letter + ")", Check.OUTSIDE, RICH, y -> y.give(letter));
            Whole.refused("give(" + letter + ") of an empty tray", Check.OUTSIDE, () -> Games.told(V + "ba;"), y -> y.give(letter));
        }
    }

    private static void promise11Not() {
        Check.promise(11, "NOT: it holds none");
        for (int letter = 0; letter <= 8; letter++) {
            int none = letter;
            Whole.refused("give(" + letter + ") of an empty tray", Check.NOT, () -> Games.told(V + "baabbcdefgh**;w0a;"), y -> y.give(none));
        }
        LetterTray x = Games.tray("hh", "w0h;");
        Check.due("give(7) of two", x.give(7), 1);
        Check.due("give(7) of one", x.give(7), 0);
        Check.due("give(7) of none", x.give(7), Check.NOT);
        Supplier<LetterTray> laid = () -> Games.laid(Games.tray("hb", "w0h;"), 0, 1);
        Whole.refused("give(7) of one that is laid", Check.NOT, laid, y -> y.give(7));
        Whole.refused("give(8), no blank", Check.NOT, laid, y -> y.give(8));
    }

    private static void promise11HowMany() {
        Check.promise(11, "how many THE TRAY holds");
        LetterTray x = Games.tray("abcdefgh****", "");
        for (int left = 11; left >= 8; left--) {
            Check.due("give(8)", x.give(8), left);
            Check.due("THE BAG", x.told(3), 12 - left);
        }
        for (int letter = 0; letter <= 7; letter++) {
            Check.due("give(" + letter + ")", x.give(letter), 7 - letter);
            Check.due("bag of it", x.letters(letter, 0), 1);
        }
        Check.due("TURNS", x.told(7), 24);
        Check.due("a giving draws nothing: the seed", x.seed(0), Games.seedAfter(0, 12));
    }

    private static void promise12Outside() {
        Check.promise(12, "CHANGED (0 .. 8): OUTSIDE");
        Check.due("change(0)", Games.tray("a", "").change(0), 0);
        Check.due("change(8)", Games.tray("*", "").change(8), 8);
        for (int letter : new int[] {-1, 9, LEAST, GREATEST}) {
            Whole.refused("change(" + letter + ")", Check.OUTSIDE, RICH, y -> y.change(letter));
            Whole.refused("change(" + letter + ") of an empty tray", Check.OUTSIDE, () -> Games.told(V + "ba;"), y -> y.change(letter));
        }
    }

    private static void promise12Not() {
        Check.promise(12, "NOT: THE TRAY holds none");
        for (int letter = 0; letter <= 8; letter++) {
            int none = letter;
            Whole.refused("change(" + letter + ") of an empty tray", Check.NOT, () -> Games.told(V + "baabbcdefgh**;w0a;"), y -> y.change(none));
        }
        Supplier<LetterTray> some = () -> Games.tray("aab", "w0a;");
        Whole.refused("change(2)", Check.NOT, some, y -> y.change(2));
        Whole.refused("change(8)", Check.NOT, some, y -> y.change(8));
    }

    private static void promise12FullAndEmpty() {
        Check.promise(12, "CHANGED: one is GIVEN BACK, then one is DRAWN: of an empty BAG, of a full TRAY, too");
        LetterTray x = Games.tray("h", "");
        Check.due("change(7), an empty bag", x.change(7), 7);
        Check.due("THE TRAY", x.told(4), 1);
        Check.due("THE BAG", x.told(3), 0);
        Check.due("TURNS", x.told(7), 2);
        Check.due("told(17)", x.told(17), 2);
        x = Games.tray("abcdefgh****", "");
        Check.due("change(8), an empty bag and a full tray", x.change(8), 8);
        Check.due("THE TRAY", x.told(4), 12);
        x = Games.drawn(V + "b" + "a".repeat(12) + "b".repeat(12) + ";", 12);
        int held = x.letters(0, 1);
        x.seed(Games.seedFor(13, 12));
        Check.due("change(0) of a full tray: a draw of 13, the last", x.change(0), 1);
        Check.due("tray of a", x.letters(0, 1), held - 1);
        Check.due("bag of a", x.letters(0, 0), 13 - held);
        x.seed(Games.seedFor(13, 0));
        Check.due("change(1): the first", x.change(1), 0);
        Check.due("THE TRAY", x.told(4), 12);
        Check.due("THE BAG", x.told(3), 12);
        Check.due("TURNS", x.told(7), 14);
    }

    private static void promise13Unknown() {
        Check.promise(13, "LAID: UNKNOWN");
        LetterTray x = Games.tray("abb", "w0a;w0b;w0c;w0d;w0e;w0f;w0g;w0h;w0aa;w0bb;");
        Check.due("lay(0) of ten", x.lay(0), 1);
        Check.due("lay(9) of ten", x.lay(9), 7);
        for (int w : new int[] {-1, 10, LEAST, GREATEST}) {
            Whole.refused("lay(" + w + ")", Check.UNKNOWN, RICH, y -> y.lay(w));
        }
        Whole.refused("lay(1) of one", Check.UNKNOWN, () -> Games.tray("aa", "w0a;"), y -> y.lay(1));
        Whole.refused("lay(0) of no word", Check.UNKNOWN, () -> Games.tray("aa", ""), y -> y.lay(0));
        Check.promise(13, "UNKNOWN, NOT, FULL: UNKNOWN first");
        Whole.refused("lay(2), a full table", Check.UNKNOWN, EdgeDeedsTest::fullTable, y -> y.lay(2));
    }

    private static void promise13Not() {
        Check.promise(13, "NOT: too many are MISSING");
        Check.due("none missing", Games.tray("abc", "w0abc;").lay(0), 6);
        Check.due("one missing, one blank", Games.tray("ab*", "w0abc;").lay(0), 6);
        Check.due("six missing, six blanks", Games.tray("******", "w0aabbcc;").lay(0), 12);
        Whole.refused("one missing, no blank", Check.NOT, () -> Games.tray("ab", "w0abc;"), y -> y.lay(0));
        Whole.refused("one missing as often", Check.NOT, () -> Games.tray("abbb", "w0aab;"), y -> y.lay(0));
        Whole.refused("two missing, one blank", Check.NOT, () -> Games.tray("a*", "w0abc;"), y -> y.lay(0));
        Whole.refused("six missing, five blanks", Check.NOT, () -> Games.tray("*****", "w0aabbcc;"), y -> y.lay(0));
        Whole.refused("an empty tray", Check.NOT, () -> Games.told(V + "ba;w0a;"), y -> y.lay(0));
    }

    /** Eight are laid; a tenth a, a b and a blank are left. */
    private static LetterTray fullTable() {
        return Games.laid(Games.tray("aaaaaaaaab*", "w0a;w0bcd;"), 0, 8);
    }

    private static void promise13Full() {
        Check.promise(13, "FULL: 8 are LAID");
        LetterTray x = Games.laid(Games.tray("aaaaaaaaa", "w0a;"), 0, 7);
        Check.due("lay(0) of an eighth", x.lay(0), 8);
        Check.due("told(5)", x.told(5), 8);
        Check.due("lay(0) of a ninth", x.lay(0), Check.FULL);
        Check.due("tray of a", x.letters(0, 1), 1);
        Whole.refused("lay(0) of a ninth", Check.FULL, EdgeDeedsTest::fullTable, y -> y.lay(0));
        Check.promise(13, "NOT: too many are MISSING; FULL: 8 are LAID: NOT first");
        Whole.refused("lay(1) of a ninth", Check.NOT, EdgeDeedsTest::fullTable, y -> y.lay(1));
        Check.promise(13, "FULL: 8 are LAID: no more, when one is taken back");
        x = fullTable();
        x.take(7);
        Check.due("lay(0)", x.lay(0), 8);
        Check.due("laid(7, 0)", x.laid(7, 0), 0);
    }

    private static void promise13Blanks() {
        Check.promise(13, "LETTER by LETTER it is taken from THE TRAY, or, if that holds no such one more, a BLANK");
        LetterTray x = Games.tray("aab***", "w0ababab;");
        Check.due("lay(0)", x.lay(0), 12);
        Check.due("the first ones are taken from the tray", x.laid(0, 1), 0b111000);
        Check.due("THE TRAY", x.told(4), 0);
        x = Games.tray("ab*", "w0a;");
        x.lay(0);
        Check.due("a blank is left alone", x.letters(8, 1), 1);
        x.lay(0);
        Check.due("a blank, if that holds no more", x.letters(8, 1), 0);
        Check.due("laid(1, 1)", x.laid(1, 1), 1);
    }

    private static void promise14Unknown() {
        Check.promise(14, "TAKEN BACK: UNKNOWN");
        Whole.refused("take(0) of none", Check.UNKNOWN, () -> Games.tray("aab", "w0a;"), y -> y.take(0));
        Check.due("take(0) of one", Games.laid(Games.tray("aab", "w0a;"), 0, 1).take(0), 0);
        Supplier<LetterTray> one = () -> Games.laid(Games.tray("aab", "w0a;"), 0, 1);
        Whole.refused("take(1) of one", Check.UNKNOWN, one, y -> y.take(1));
        Check.due("take(7) of eight", fullTable().take(7), 7);
        for (int i : new int[] {-1, 8, LEAST, GREATEST}) {
            Whole.refused("take(" + i + ") of eight", Check.UNKNOWN, EdgeDeedsTest::fullTable, y -> y.take(i));
        }
        Check.promise(14, "UNKNOWN, FULL: UNKNOWN first");
        Whole.refused("take(1), a full tray", Check.UNKNOWN, () -> tableAndTray(12), y -> y.take(1));
    }

    /** A word of six letters is laid, and the tray holds so many. */
    private static LetterTray tableAndTray(int held) {
        LetterTray x = Games.drawn(V + "b" + "a".repeat(20) + ";w0aaaaaa;w0a;", 6);
        x.lay(0);
        for (int i = 0; i < held; i++) {
            x.draw();
        }
        return x;
    }

    private static void promise14Full() {
        Check.promise(14, "FULL: THE TRAY would hold more than 12");
        LetterTray x = tableAndTray(6);
        Check.due("take(0) to 12", x.take(0), 0);
        Check.due("THE TRAY", x.told(4), 12);
        Whole.refused("take(0) to 13", Check.FULL, () -> tableAndTray(7), y -> y.take(0));
        Whole.refused("take(0) to 18", Check.FULL, () -> tableAndTray(12), y -> y.take(0));
        x = tableAndTray(11);
        x.lay(1);
        x.draw();
        Check.due("take(1) of one letter to 12", x.take(1), 6);
        x.lay(1);
        x.draw();
        x.draw();
        Check.due("take(1) of one letter to 13", x.take(1), Check.FULL);
        Check.due("take(0) to 18", x.take(0), Check.FULL);
    }

    private static void promise14Numbers() {
        Check.promise(14, "those behind it have one number less");
        for (int gone : new int[] {0, 3, 7}) {
            LetterTray x = Games.tray("abcdefgh", "w0a;w0b;w0c;w0d;w0e;w0f;w0g;w0h;");
            for (int w = 0; w < 8; w++) {
                x.lay(w);
            }
            Check.due("take(" + gone + ")", x.take(gone), 24 - x.letters(gone, 2));
            for (int i = 0; i < 7; i++) {
                Check.due("laid(" + i + ", 0)", x.laid(i, 0), i < gone ? i : i + 1);
            }
            Check.due("laid(7, 0)", x.laid(7, 0), Check.UNKNOWN);
            Check.due("THE TRAY", x.letters(gone, 1), 1);
        }
        Check.promise(14, "SCORE: 0, when all are taken back");
        LetterTray x = fullTable();
        for (int left = 7; left >= 0; left--) {
            Check.due("take(0)", x.take(0), left);
        }
        Check.due("take(0)", x.take(0), Check.UNKNOWN);
    }

    private static void promise14Blanks() {
        Check.promise(14, "its LETTERS and BLANKS come to THE TRAY");
        LetterTray x = Games.tray("a*****", "w0abcdef;");
        x.lay(0);
        Check.due("take(0)", x.take(0), 0);
        Check.due("blanks", x.letters(8, 1), 5);
        Check.due("tray of a", x.letters(0, 1), 1);
        Check.due("tray of f", x.letters(5, 1), 0);
        x = Games.tray("bcdef*a", "w0abcdef;w0a;");
        x.lay(1);
        x.lay(0);
        Check.due("laid(1, 1)", x.laid(1, 1), 1);
        x.take(0);
        Check.due("laid(0, 1) comes up with its word", x.laid(0, 1), 1);
        x.take(0);
        Check.due("blanks", x.letters(8, 1), 1);
        Check.due("tray of a", x.letters(0, 1), 1);
    }

    private static void promise15Outside() {
        Check.promise(15, "n times BY DRAWS (1 .. 20): OUTSIDE");
        for (int n : new int[] {0, 21, -1, LEAST, GREATEST}) {
            Whole.refused("drift(" + n + ")", Check.OUTSIDE, RICH, y -> y.drift(n));
            Whole.refused("drift(" + n + ") of no game, OUTSIDE first", Check.OUTSIDE, LetterTray::new, y -> y.drift(n));
        }
        LetterTray x = Games.told(V);
        Check.due("drift(1)", x.drift(1), 0);
        Check.due("told(17)", x.told(17), 1);
        Check.due("drift(20)", x.drift(20), 0);
        Check.due("told(17)", x.told(17), 21);
    }

    private static void promise15Not() {
        Check.promise(15, "NOT: no GAME");
        Whole.refused("drift(20)", Check.NOT, LetterTray::new, y -> y.drift(20));
        Supplier<LetterTray> gone = () -> {
            LetterTray x = Games.rich("");
            x.game();
            return x;
        };
        Whole.refused("drift(1) behind an empty text", Check.NOT, gone, y -> y.drift(1));
        LetterTray x = Games.told(V);
        Games.feed(x, "x");
        x.game();
        Check.due("drift(1) behind a fault: there is a game", x.drift(1), 0);
    }

    private static void promise15Times() {
        Check.promise(15, "n times BY DRAWS: like one after the other");
        Whole.alike("drift(20)", () -> {
            LetterTray x = Games.rich("");
            x.drift(20);
            return x;
        }, () -> {
            LetterTray x = Games.rich("");
            for (int i = 0; i < 20; i++) {
                x.drift(1);
            }
            return x;
        });
    }

    /** One time from a seed: the tray, the table, turns, and how many draws there were. */
    private static void once(String label, LetterTray x, int seed, int tray, int table, int turns, int draws) {
        x.seed(seed);
        int could = x.told(17);
        Check.due(label + ": drift(1)", x.drift(1), x.told(6));
        Check.due(label + ": THE TRAY", x.told(4), tray);
        Check.due(label + ": LAID", x.told(5), table);
        Check.due(label + ": TURNS", x.told(7), turns);
        Check.due(label + ": can be undone", x.told(17), could + 1);
        Check.due(label + ": draws", x.seed(0), Games.seedAfter(seed, draws));
        Check.due(label + ": undo(1)", x.undo(1) >= 0 ? 1 : 0, 1);
        Check.due(label + ": can be undone", x.told(17), could);
    }

    private static void promise15Drawn() {
        Check.promise(15, "a DRAW of 6: on 0 to 2 one is DRAWN, if that can be");
        for (int die = 0; die <= 2; die++) {
            int seed = Games.seedFor(6, die);
            once("on " + die, Games.drawn(V + "baab;", 2), seed, 3, 0, 3, 2);
            once("an empty bag on " + die, Games.tray("ab", ""), seed, 2, 0, 2, 1);
            once("no bag on " + die, Games.told(V), seed, 0, 0, 0, 1);
            once("a tray of 11 on " + die, Games.drawn(V + "b" + "a".repeat(13) + ";", 11), seed, 12, 0, 12, 2);
            once("a full tray on " + die, Games.drawn(V + "b" + "a".repeat(13) + ";", 12), seed, 12, 0, 12, 1);
        }
    }

    private static void promise15GivenBack() {
        Check.promise(15, "on 3, if THE TRAY holds some, a DRAW of as many (counted through likewise) is GIVEN BACK");
        int seed = Games.seedFor(6, 3);
        once("an empty tray", Games.told(V + "bab;w0a;"), seed, 0, 0, 0, 1);
        once("a tray of one", Games.tray("a", ""), seed, 0, 0, 2, 2);
        once("a tray of 12", Games.tray("abcdefgh****", ""), seed, 11, 0, 13, 2);
        int[] due = {0, 0, 2, 7, 8, 8};
        for (int i = 0; i < due.length; i++) {
            LetterTray x = Games.tray("aach**", "");
            x.seed(Games.seedFor(6, 3, 6, i));
            x.drift(1);
            Check.due("given back on " + i, x.letters(due[i], 0), 1);
            Check.due("THE BAG on " + i, x.told(3), 1);
        }
    }

    private static void promise15Laid() {
        Check.promise(15, "on 4, if there are WORDS, a DRAW of these is LAID, if that can be");
        int seed = Games.seedFor(6, 4);
        once("no word", Games.tray("aab", ""), seed, 3, 0, 3, 1);
        once("one word", Games.tray("aab", "w0ab;"), seed, 1, 1, 4, 2);
        once("one word that cannot", Games.tray("aab", "w0ac;"), seed, 3, 0, 3, 2);
        once("a full table", fullTable(), Games.seedFor(6, 4, 2, 0), 3, 8, 19, 2);
        once("a table of seven", Games.laid(Games.tray("aaaaaaaaa", "w0a;"), 0, 7), seed, 1, 8, 17, 2);
        String ten = "w0a;w0b;w0c;w0d;w0e;w0f;w0g;w0h;w0aa;w0bb;";
        for (int w : new int[] {0, 9}) {
            LetterTray x = Games.tray("aabb", ten);
            x.seed(Games.seedFor(6, 4, 10, w));
            Check.due("drift(1)", x.drift(1), w == 0 ? 1 : 6);
            Check.due("laid(0, 0)", x.laid(0, 0), w);
        }
    }

    private static void promise15TakenBack() {
        Check.promise(15, "on 5, if some are LAID, a DRAW of these is TAKEN BACK, if that can be");
        int seed = Games.seedFor(6, 5);
        once("nothing laid", Games.tray("aab", "w0ab;"), seed, 3, 0, 3, 1);
        once("one laid", Games.laid(Games.tray("aab", "w0ab;"), 0, 1), seed, 3, 0, 5, 2);
        once("to a tray of 12", tableAndTray(6), seed, 12, 0, 14, 2);
        once("to a tray of 13", tableAndTray(7), seed, 7, 1, 14, 2);
        for (int i : new int[] {0, 7}) {
            LetterTray x = Games.tray("abcdefgh", "w0a;w0b;w0c;w0d;w0e;w0f;w0g;w0h;");
            for (int w = 0; w < 8; w++) {
                x.lay(w);
            }
            x.seed(Games.seedFor(6, 5, 8, i));
            Check.due("drift(1)", x.drift(1), 24 - x.letters(i, 2));
            Check.due("the tray has it", x.letters(i, 1), 1);
        }
    }

    private static void promise16Outside() {
        Check.promise(16, "The n latest (1 .. 30): OUTSIDE");
        for (int n : new int[] {0, 31, -1, LEAST, GREATEST}) {
            Whole.refused("undo(" + n + ")", Check.OUTSIDE, RICH, y -> y.undo(n));
            Whole.refused("undo(" + n + "), nothing to undo: OUTSIDE first", Check.OUTSIDE, LetterTray::new, y -> y.undo(n));
            Whole.refused("undo(" + n + ") of 30", Check.OUTSIDE, () -> changed(40), y -> y.undo(n));
        }
    }

    private static void promise16Not() {
        Check.promise(16, "NOT: not so many");
        int could = RICH.get().told(17);
        Check.due("told(17)", could, 8);
        Whole.refused("undo(9) of 8", Check.NOT, RICH, y -> y.undo(9));
        Whole.refused("undo(30) of 8", Check.NOT, RICH, y -> y.undo(30));
        Check.due("undo(8) of 8", RICH.get().undo(8), 19);
        Whole.refused("undo(1) of a new object", Check.NOT, LetterTray::new, y -> y.undo(1));
        Whole.refused("undo(1) of a new game", Check.NOT, () -> Games.told(Games.TEN), y -> y.undo(1));
        Check.due("undo(1) of 1", Games.drawn(V + "ba;", 1).undo(1), 0);
        Whole.refused("undo(2) of 1", Check.NOT, () -> Games.drawn(V + "ba;", 1), y -> y.undo(2));
        Whole.refused("undo(30) of 29", Check.NOT, () -> changed(28), y -> y.undo(30));
        Check.due("undo(29) of 29", changed(28).undo(29), 0);
        Check.due("undo(30) of 30", changed(29).undo(30), 0);
    }

    /** One is drawn, and changed so often. */
    private static LetterTray changed(int times) {
        LetterTray x = Games.told(V + "babcdefgh**;w0a;");
        int held = x.draw();
        for (int i = 0; i < times; i++) {
            held = x.change(held);
        }
        return x;
    }

    private static void promise16Kept() {
        Check.promise(16, "UNDONE (30 at most are kept)");
        LetterTray x = changed(30);
        Check.due("TURNS", x.told(7), 31);
        Check.due("told(17)", x.told(17), 30);
        Check.due("undo(30)", x.undo(30), 0);
        Check.due("TURNS: the first of 31 is not undone", x.told(7), 1);
        Check.due("THE TRAY", x.told(4), 1);
        Check.due("told(17)", x.told(17), 0);
        Check.due("undo(1)", x.undo(1), Check.NOT);
        x = changed(29);
        Check.due("undo(30)", x.undo(30), 0);
        Check.due("TURNS: all 30 are undone", x.told(7), 0);
        x = changed(30);
        Check.due("undo(29)", x.undo(29), 0);
        Check.due("TURNS", x.told(7), 2);
        Check.due("undo(2)", x.undo(2), Check.NOT);
        Check.due("undo(1)", x.undo(1), 0);
        Check.due("TURNS", x.told(7), 1);
    }

    /** What was ahead of each deed, over more deeds than are kept, with some undone between. */
    private static void promise16ComesRound() {
        Check.promise(16, "all of section 2 is as ahead of them, however many went before");
        for (int times = 25; times <= 95; times += 7) {
            LetterTray x = changed(times);
            LetterTray y = changed(times - 3);
            x.undo(3);
            Check.due("TURNS", x.told(7), times - 2);
            for (int letter = 0; letter <= 8; letter++) {
                Check.due("tray behind " + times, x.letters(letter, 1), y.letters(letter, 1));
            }
        }
        LetterTray x = Games.drawn(V + "baaaaaaaaaaaa;w0a;", 3);
        int[] held = new int[100];
        int deeds = 3;
        for (int round = 0; round < 12; round++) {
            for (int i = 0; i < 7; i++) {
                held[deeds] = x.told(4);
                deeds++;
                Check.due("deed " + deeds, (round % 2 == 0 ? x.draw() : x.give(0)) >= 0 ? 1 : 0, 1);
            }
            x.undo(2);
            deeds -= 2;
            Check.due("THE TRAY behind round " + round, x.told(4), held[deeds]);
            Check.due("TURNS behind round " + round, x.told(7), deeds);
        }
        int could = x.told(17);
        Check.due("told(17)", could, 28);
        for (int i = 0; i < could; i++) {
            x.undo(1);
            deeds--;
            Check.due("THE TRAY ahead of deed " + deeds, x.told(4), held[deeds]);
            Check.due("TURNS ahead of deed " + deeds, x.told(7), deeds);
        }
    }

    private static void promise16Since() {
        Check.promise(16, "the latest deeds since the text or IMAGE");
        LetterTray x = Games.drawn(Games.TEN, 5);
        Games.feed(x, "x");
        x.game();
        Check.due("told(17) behind a fault", x.told(17), 5);
        x.seed(5);
        x.say(0, 0, 0);
        x.write(0, 0);
        x.tear();
        Check.due("told(17): no deeds", x.told(17), 5);
        x.keep(0);
        Check.due("undo(1) behind keep", x.undo(1), Check.NOT);
        x.draw();
        x.goBack(0);
        Check.due("undo(1) behind goBack", x.undo(1), Check.NOT);
        x.draw();
        Check.due("undo(1)", x.undo(1), 0);
        Check.due("TURNS", x.told(7), 5);
        x.draw();
        Games.feed(x, V);
        x.game();
        Check.due("undo(1) behind a text", x.undo(1), Check.NOT);
    }

    private static void promise16Times() {
        Check.promise(16, "each of the times BY DRAWS");
        LetterTray x = Games.told(V);
        x.drift(20);
        Check.due("told(17): also those in which nothing is done", x.told(17), 20);
        x.drift(9);
        Check.due("told(17)", x.told(17), 29);
        x.drift(1);
        Check.due("told(17)", x.told(17), 30);
        x.drift(20);
        Check.due("told(17)", x.told(17), 30);
        Check.due("undo(30)", x.undo(30), 0);
        Check.due("undo(1)", x.undo(1), Check.NOT);
        Whole.alike("drift(20), then undo(13)", () -> {
            LetterTray y = Games.rich("");
            y.drift(20);
            y.undo(13);
            y.seed(0);
            return y;
        }, () -> {
            LetterTray y = Games.rich("");
            y.drift(7);
            y.seed(0);
            return y;
        });
    }

    private static void promise16Whole() {
        Check.promise(16, "all of section 2 is as ahead of them; THE SEED stays");
        Supplier<LetterTray> ahead = () -> {
            LetterTray x = Games.rich("");
            x.seed(0);
            return x;
        };
        for (int w = 0; w < 10; w++) {
            int word = w;
            Whole.alike("lay(" + w + "), undone", () -> doneAndUndone(x -> x.lay(word)), ahead);
        }
        for (int letter = 0; letter <= 8; letter++) {
            int given = letter;
            Whole.alike("give(" + letter + "), undone", () -> doneAndUndone(x -> x.give(given)), ahead);
            Whole.alike("change(" + letter + "), undone", () -> doneAndUndone(x -> x.change(given)), ahead);
        }
        Whole.alike("draw(), undone", () -> doneAndUndone(LetterTray::draw), ahead);
        Whole.alike("take(0), undone", () -> doneAndUndone(x -> x.take(0)), ahead);
        Whole.alike("take(1), undone", () -> doneAndUndone(x -> x.take(1)), ahead);
        LetterTray x = Games.told(V + "baa;");
        x.seed(9);
        x.draw();
        x.undo(1);
        Check.due("THE SEED stays", x.seed(0), Games.seedAfter(9, 1));
    }

    private static void promise16Eighth() {
        Check.promise(16, "all of section 2 is as ahead of them: the eighth that is LAID, its BLANKS, too");
        LetterTray x = Games.laid(Games.tray("aaaaaaaab*", "w0a;w0bb;"), 0, 7);
        x.lay(1);
        x.take(7);
        x.lay(0);
        Check.due("another eighth: laid(7, 0)", x.laid(7, 0), 0);
        Check.due("undo(2)", x.undo(2), 13);
        Check.due("laid(7, 0)", x.laid(7, 0), 1);
        Check.due("laid(7, 1)", x.laid(7, 1), 2);
        Check.due("undo(1)", x.undo(1), 7);
        Check.due("laid(7, 0)", x.laid(7, 0), Check.UNKNOWN);
    }

    private static LetterTray doneAndUndone(ToIntFunction<LetterTray> deed) {
        LetterTray x = Games.rich("");
        if (deed.applyAsInt(x) >= 0) {
            x.undo(1);
        }
        x.seed(0);
        return x;
    }

    private static void turnsLate() {
        Check.promise(10, "FULL: TURNS are 90000 or more");
        Whole.refused("draw()", Check.FULL, LATE, LetterTray::draw);
        Check.promise(11, "FULL: TURNS are 90000 or more");
        Whole.refused("give(0)", Check.FULL, LATE, x -> x.give(0));
        Check.due("give(1): NOT first", LATE.get().give(1), Check.NOT);
        Check.due("give(9): OUTSIDE first", LATE.get().give(9), Check.OUTSIDE);
        Check.promise(12, "FULL: TURNS are 90000 or more");
        Whole.refused("change(0)", Check.FULL, LATE, x -> x.change(0));
        Check.due("change(1): NOT first", LATE.get().change(1), Check.NOT);
        Check.due("change(9): OUTSIDE first", LATE.get().change(9), Check.OUTSIDE);
        Check.promise(13, "FULL: TURNS are 90000 or more");
        Whole.refused("lay(0)", Check.FULL, LATE, x -> x.lay(0));
        Check.due("lay(1): NOT first", LATE.get().lay(1), Check.NOT);
        Check.due("lay(2): UNKNOWN first", LATE.get().lay(2), Check.UNKNOWN);
        Check.promise(14, "FULL: TURNS are 90000 or more");
        Whole.refused("take(0)", Check.FULL, LATE, x -> x.take(0));
        Check.due("take(1): UNKNOWN first", LATE.get().take(1), Check.UNKNOWN);
        Check.promise(15, "FULL: TURNS are 90000 or more");
        Whole.refused("drift(1)", Check.FULL, LATE, x -> x.drift(1));
        Check.due("drift(21): OUTSIDE first", LATE.get().drift(21), Check.OUTSIDE);
    }

    private static void lastTurn(int promise, String call, ToIntFunction<LetterTray> deed, int due) {
        Check.promise(promise, "FULL: TURNS are 90000 or more: the last that is taken");
        LetterTray x = Games.atTurns(89999);
        Check.due("TURNS", x.told(7), 89999);
        Check.due(call, deed.applyAsInt(x), due);
        Check.due("TURNS", x.told(7), 90000);
        Check.due("draw() at 90000", x.draw(), x.told(3) == 0 ? Check.NOT : Check.FULL);
    }

    private static void turnsLast() {
        lastTurn(10, "draw()", LetterTray::draw, 0);
        lastTurn(11, "give(0)", x -> x.give(0), 0);
        lastTurn(12, "change(0)", x -> x.change(0), 0);
        lastTurn(13, "lay(0)", x -> x.lay(0), 2);
        lastTurn(14, "take(0)", x -> x.take(0), 0);
        Check.promise(15, "FULL: TURNS are 90000 or more: a time BY DRAWS does no more then");
        LetterTray x = Games.atTurns(89999);
        Check.due("drift(20)", x.drift(20) >= 0 ? 1 : 0, 1);
        Check.due("TURNS", x.told(7), 90000);
        Check.due("told(17)", x.told(17), 30);
        Check.promise(16, "all of section 2 is as ahead of them: TURNS, too, at 90000");
        x = LATE.get();
        Check.due("undo(1)", x.undo(1), 1);
        Check.due("TURNS", x.told(7), 89999);
        Check.due("draw()", x.draw(), 0);
    }
}
