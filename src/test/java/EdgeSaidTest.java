import java.util.function.Supplier;

/** The boundary cases of promises 23 to 28: what is said of a word, and the book of the table. */
public final class EdgeSaidTest {
    private static final String V = Check.VALUES;
    private static final int LEAST = Integer.MIN_VALUE;
    private static final int GREATEST = Integer.MAX_VALUE;
    private static final Supplier<LetterTray> RICH = () -> Games.rich("v1,2");

    public static void main(String[] args) {
        promise23Unknown();
        promise23Outside();
        promise23Full();
        promise23Bounds();
        promise24Bounds();
        promise24Last();
        promise25None();
        promise25Least();
        promise25Bounds();
        promise26Unknown();
        promise26Outside();
        promise26Full();
        promise27None();
        promise27Places();
        promise27First();
        promise27Empty();
        promise28Empty();
        promise28Full();
        promise28Else();
        Check.close();
    }

    private static void promise23Unknown() {
        Check.promise(23, "SAID: UNKNOWN");
        Check.due("say(0, 0, 0) of ten", RICH.get().say(0, 0, 0), 3);
        Check.due("say(9, 0, 0) of ten", RICH.get().say(9, 0, 0), 3);
        for (int w : new int[] {-1, 10, LEAST, GREATEST}) {
            Whole.refused("say(" + w + ", 0, 0)", Check.UNKNOWN, RICH, y -> y.say(w, 0, 0));
            Whole.refused("say(" + w + ", 7, 0), UNKNOWN first", Check.UNKNOWN, RICH, y -> y.say(w, 7, 0));
            Whole.refused("say(" + w + ", 0, -1) of a seventh, UNKNOWN first", Check.UNKNOWN, () -> said(6),
                    y -> y.say(w, 0, -1));
        }
        Check.due("say(1, 0, 0) of one", Games.told(V + "w0a;").say(1, 0, 0), Check.UNKNOWN);
    }

    private static void promise23Outside() {
        Check.promise(23, "RIGHT, MORE 0 .. 6: OUTSIDE");
        for (int count = 0; count <= 6; count++) {
            Check.due("say(9, " + count + ", 0)", RICH.get().say(9, count, 0), 3);
            Check.due("say(9, 0, " + count + ")", RICH.get().say(9, 0, count), 3);
        }
        for (int count : new int[] {-1, 7, LEAST, GREATEST}) {
            Whole.refused("say(9, " + count + ", 0)", Check.OUTSIDE, RICH, y -> y.say(9, count, 0));
            Whole.refused("say(9, 0, " + count + ")", Check.OUTSIDE, RICH, y -> y.say(9, 0, count));
            Whole.refused("say(0, " + count + ", 6) of a seventh, OUTSIDE first", Check.OUTSIDE, () -> said(6),
                    y -> y.say(0, count, 6));
            Whole.refused("say(0, 6, " + count + ") of a seventh, OUTSIDE first", Check.OUTSIDE, () -> said(6),
                    y -> y.say(0, 6, count));
        }
    }

    /** So much is said, the truth of the word 4, 'cabe'. */
    private static LetterTray said(int times) {
        LetterTray x = Games.told(Games.TEN);
        for (int i = 0; i < times; i++) {
            x.say(i, x.right(i, 4, 0), x.right(i, 4, 1));
        }
        return x;
    }

    private static void promise23Full() {
        Check.promise(23, "how much; FULL (6)");
        LetterTray x = Games.told(Games.TEN);
        for (int i = 1; i <= 6; i++) {
            Check.due("say(0, 0, 0)", x.say(0, 0, 0), i);
            Check.due("told(15)", x.told(15), i);
        }
        Check.due("say(0, 0, 0) of a seventh", x.say(0, 0, 0), Check.FULL);
        Whole.refused("say(0, 0, 0) of a seventh", Check.FULL, () -> said(6), y -> y.say(0, 0, 0));
        Whole.refused("say(9, 6, 6) of a seventh", Check.FULL, () -> said(6), y -> y.say(9, 6, 6));
        Check.due("couldBe() of six", said(6).couldBe(), 16);
    }

    private static void promise23Bounds() {
        Check.promise(23, "RIGHT, MORE 0 .. 6: also what no WORD can have");
        LetterTray x = Games.told(V + "w0abcdef;w0bcdefa;w0abcdeg;w0h;");
        Check.due("say(0, 6, 0)", x.say(0, 6, 0), 1);
        Check.due("couldBe()", x.couldBe(), 1);
        x.tear();
        Check.due("say(0, 0, 6)", x.say(0, 0, 6), 1);
        Check.due("couldBe()", x.couldBe(), 2);
        x.tear();
        Check.due("say(0, 6, 6)", x.say(0, 6, 6), 1);
        Check.due("couldBe()", x.couldBe(), 0);
        x.tear();
        Check.due("say(0, 0, 0)", x.say(0, 0, 0), 1);
        Check.due("couldBe()", x.couldBe(), 8);
        x.tear();
        Check.due("say(3, 2, 0) of a word of one letter", x.say(3, 2, 0), 1);
        Check.due("say(3, 6, 0) of a word of one letter", x.say(3, 6, 0), 2);
        Check.due("say(3, 0, 2) of a word of one letter", x.say(3, 0, 2), 3);
        Check.due("say(3, 0, 6) of a word of one letter", x.say(3, 0, 6), 4);
        Check.due("couldBe()", x.couldBe(), 0);
    }

    private static void promise24Bounds() {
        Check.promise(24, "COULD BE: WORDS (a SET) by which all that is SAID is so");
        Check.due("no game", new LetterTray().couldBe(), 0);
        Check.due("no word", Games.told(V).couldBe(), 0);
        Check.due("one word, nothing said", Games.told(V + "w0a;").couldBe(), 1);
        Check.due("ten words, nothing said", Games.told(Games.TEN).couldBe(), 1023);
        LetterTray x = Games.told(Games.TEN);
        x.say(9, 6, 0);
        Check.due("bit 9 alone", x.couldBe(), 512);
        x.tear();
        x.say(0, 2, 0);
        x.say(9, 2, 0);
        Check.due("bit 0 alone", x.couldBe(), 1);
        x.say(9, 1, 0);
        Check.due("none", x.couldBe(), 0);
    }

    private static void promise24Last() {
        Check.promise(24, "all that is SAID: the first of six and the last");
        for (int wrong : new int[] {0, 5}) {
            LetterTray x = Games.told(V + "w0ab;w0ba;");
            for (int i = 0; i < 6; i++) {
                Check.due("couldBe() ahead of " + i, x.couldBe(), i == 0 ? 3 : i <= wrong ? 1 : 0);
                x.say(0, i == wrong ? 1 : 2, 0);
            }
            Check.due("couldBe()", x.couldBe(), 0);
        }
    }

    private static void promise25None() {
        Check.promise(25, "ASK; NONE: none parts them");
        Check.due("no game", new LetterTray().ask(), Check.NONE);
        Check.due("no word", Games.told(V).ask(), Check.NONE);
        Check.due("one word", Games.told(V + "w0a;").ask(), Check.NONE);
        Check.due("two words", Games.told(V + "w0a;w0b;").ask(), 0);
        LetterTray x = Games.told(V + "w0a;w0b;");
        x.say(0, 1, 0);
        Check.due("one that could be", x.ask(), Check.NONE);
        x.say(0, 0, 0);
        Check.due("none that could be", x.ask(), Check.NONE);
    }

    private static void promise25Least() {
        Check.promise(25, "the greatest part that is alike is least; of like ones the least");
        Check.due("word 0 of like ones", Games.told(V + "w0a;w0b;w0c;").ask(), 0);
        Check.due("word 1 parts better", Games.told(V + "w0c;w0ab;w0a;w0b;").ask(), 1);
        Check.due("the last parts best", Games.told(V + "w0ha;w0hb;w0hc;w0gabd;").ask(), 3);
        LetterTray x = Games.told(V + "w0gaha;w0ea;w0eb;w0fa;w0fb;");
        x.say(0, 0, 0);
        Check.due("couldBe()", x.couldBe(), 20);
        Check.due("one that could not be parts as well", x.ask(), 1);
    }

    private static void promise25Bounds() {
        Check.promise(25, "these are told apart: by RIGHT, by MORE, by both");
        LetterTray x = Games.told(V + "w0ab;w0ba;w0cd;");
        Check.due("by MORE alone", x.ask(), 0);
        x = Games.told(V + "w0hhhhhh;w0ghhhhh;w0ggghhh;w0gggggg;");
        Check.due("by RIGHT alone", x.ask(), 0);
        x = Games.told(V + "w0e;w0f;w0a;w0b;w0c;w0d;w0g;w0h;w0aa;w0ab;");
        Check.due("the last of ten", x.ask(), 9);
        x = Games.told(V + "w0ab;w0f;w0a;w0b;w0c;w0d;w0g;w0h;w0aa;w0e;");
        Check.due("the first of ten", x.ask(), 0);
    }

    private static void promise26Unknown() {
        Check.promise(26, "UNKNOWN (the WORD)");
        Check.due("write(0, 0) of ten", RICH.get().write(0, 0), 4);
        Check.due("write(0, 9) of ten", RICH.get().write(0, 9), 4);
        Check.due("write(0, NONE)", RICH.get().write(0, Check.NONE), 4);
        for (int w : new int[] {-2, 10, LEAST, GREATEST, Check.UNKNOWN}) {
            Whole.refused("write(0, " + w + ")", Check.UNKNOWN, RICH, y -> y.write(0, w));
            Whole.refused("write(8, " + w + "), UNKNOWN first", Check.UNKNOWN, RICH, y -> y.write(8, w));
            Whole.refused("write(-1, " + w + ") of a 21st, UNKNOWN first", Check.UNKNOWN, () -> written(20),
                    y -> y.write(-1, w));
        }
        Check.due("write(0, NONE) of no game", new LetterTray().write(0, Check.NONE), 1);
        Check.due("write(0, 0) of no game", new LetterTray().write(0, 0), Check.UNKNOWN);
        Check.due("write(0, 1) of one word", Games.told(V + "w0a;").write(0, 1), Check.UNKNOWN);
    }

    private static void promise26Outside() {
        Check.promise(26, "OUTSIDE (the place)");
        Check.due("write(0, 0)", RICH.get().write(0, 0), 4);
        Check.due("write(7, 0)", RICH.get().write(7, 0), 4);
        for (int place : new int[] {-1, 8, LEAST, GREATEST}) {
            Whole.refused("write(" + place + ", 0)", Check.OUTSIDE, RICH, y -> y.write(place, 0));
            Whole.refused("write(" + place + ", NONE)", Check.OUTSIDE, RICH, y -> y.write(place, Check.NONE));
            Whole.refused("write(" + place + ", 9) of a 21st, OUTSIDE first", Check.OUTSIDE, () -> written(20),
                    y -> y.write(place, 9));
        }
    }

    /** A book with so many entries: the table is empty, as they say. */
    private static LetterTray written(int entries) {
        LetterTray x = Games.drawn(Games.TEN, 6);
        for (int i = 0; i < entries; i++) {
            x.write(i % 8, Check.NONE);
        }
        return x;
    }

    private static void promise26Full() {
        Check.promise(26, "how many; FULL (20)");
        LetterTray x = Games.told(Games.TEN);
        for (int i = 1; i <= 20; i++) {
            Check.due("write(7, 9)", x.write(7, 9), i);
            Check.due("told(16)", x.told(16), i);
        }
        Whole.refused("write(0, 0) of a 21st", Check.FULL, () -> written(20), y -> y.write(0, 0));
        Whole.refused("write(7, NONE) of a 21st", Check.FULL, () -> written(20), y -> y.write(7, Check.NONE));
        x = written(19);
        Check.due("write(0, 0) of a 20th", x.write(0, 0), 20);
        Check.due("judge(): it counts", x.judge(), 19);
        x = written(20);
        x.write(0, 0);
        Check.due("judge(): a 21st does not", x.judge(), Check.NONE);
    }

    private static void promise27None() {
        Check.promise(27, "WRONG; NONE");
        Check.due("no game", new LetterTray().judge(), Check.NONE);
        Check.due("no book", Games.laid(Games.tray("aa", "w0a;"), 0, 2).judge(), Check.NONE);
        Check.due("a full book, all so", written(20).judge(), Check.NONE);
    }

    private static void promise27Places() {
        Check.promise(27, "which WORD lies at a place of THE TABLE (0 .. 7; NONE: none)");
        LetterTray x = Games.tray("abcdefgh", "w0a;w0b;w0c;w0d;w0e;w0f;w0g;w0h;");
        for (int w = 0; w < 8; w++) {
            x.write(7 - w, Check.NONE);
        }
        Check.due("an empty table", x.judge(), Check.NONE);
        for (int w = 0; w < 8; w++) {
            x.lay(w);
            Check.due("judge() with " + w + " laid", x.judge(), 7 - w);
        }
        x.tear();
        for (int w = 0; w < 8; w++) {
            x.write(w, w);
        }
        Check.due("a full table", x.judge(), Check.NONE);
        x.take(7);
        Check.due("the last is gone", x.judge(), 7);
        x.take(0);
        Check.due("the first is gone, all others have another number", x.judge(), 0);
    }

    private static void promise27First() {
        Check.promise(27, "the first that is otherwise now");
        LetterTray x = Games.laid(Games.tray("aa", "w0a;w0b;"), 0, 1);
        x.write(0, 0);
        x.write(1, Check.NONE);
        Check.due("none", x.judge(), Check.NONE);
        x.write(0, 1);
        Check.due("the third", x.judge(), 2);
        x.write(0, Check.NONE);
        Check.due("still the third", x.judge(), 2);
        x.take(0);
        Check.due("now the first", x.judge(), 0);
        x.undo(1);
        Check.due("the third again", x.judge(), 2);
        x = written(20);
        x.tear();
        for (int i = 0; i < 19; i++) {
            x.write(i % 8, Check.NONE);
        }
        x.write(3, 9);
        Check.due("the twentieth", x.judge(), 19);
    }

    private static void promise27Empty() {
        Check.promise(27, "NONE: none lies at a place of THE TABLE, also where one lay");
        LetterTray x = Games.laid(Games.tray("aaa", "w0a;"), 0, 3);
        x.take(1);
        x.write(2, Check.NONE);
        Check.due("judge()", x.judge(), Check.NONE);
        x.write(2, 0);
        Check.due("judge()", x.judge(), 1);
        x.write(1, 0);
        Check.due("judge()", x.judge(), 1);
    }

    private static void promise28Empty() {
        Check.promise(28, "Nothing SAID, no BOOK: how much both had: 0");
        Check.due("no game", new LetterTray().tear(), 0);
        Check.due("a new game", Games.told(Games.TEN).tear(), 0);
        Whole.unchanged("tear() of nothing", () -> Games.drawn(Games.TEN, 5), LetterTray::tear);
        LetterTray x = RICH.get();
        Check.due("tear()", x.tear(), 5);
        Check.due("tear() again", x.tear(), 0);
    }

    private static LetterTray allFull() {
        LetterTray x = written(20);
        for (int i = 0; i < 6; i++) {
            x.say(0, 2, 0);
        }
        return x;
    }

    private static void promise28Full() {
        Check.promise(28, "how much both had: 26 at most");
        LetterTray x = allFull();
        Check.due("tear()", x.tear(), 26);
        Check.due("told(15)", x.told(15), 0);
        Check.due("told(16)", x.told(16), 0);
        Check.due("couldBe()", x.couldBe(), 1023);
        Check.due("judge()", x.judge(), Check.NONE);
        Check.due("say", x.say(0, 0, 0), 1);
        Check.due("write", x.write(0, 0), 1);
        Check.due("judge()", x.judge(), 0);
        x = said(6);
        Check.due("tear(), no book", x.tear(), 6);
        Check.due("tear(), nothing said", written(20).tear(), 20);
    }

    private static void promise28Else() {
        Check.promise(28, "Nothing SAID, no BOOK: all else is as it was");
        Whole.alike("tear()", () -> {
            LetterTray x = allFull();
            x.tear();
            return x;
        }, () -> Games.drawn(Games.TEN, 6));
    }
}
