/** Promises 23 to 28: what is said of a word, and the book of the table. */
public final class SaidTest {
    public static void main(String[] args) {
        promise23();
        promise24();
        promise25();
        promise26();
        promise27();
        promise28();
        Check.close();
    }

    private static void promise23() {
        LetterTray x = Check.game(Check.GAME, 8);
        Check.due("say(8, 7, 0)", x.say(8, 7, 0), Check.UNKNOWN);
        Check.due("say(-1, 0, 0)", x.say(-1, 0, 0), Check.UNKNOWN);
        Check.due("say(0, -1, 0)", x.say(0, -1, 0), Check.OUTSIDE);
        Check.due("say(0, 7, 0)", x.say(0, 7, 0), Check.OUTSIDE);
        Check.due("say(0, 0, -1)", x.say(0, 0, -1), Check.OUTSIDE);
        Check.due("say(0, 0, 7)", x.say(0, 0, 7), Check.OUTSIDE);
        Check.due("told(15)", x.told(15), 0);
        for (int i = 1; i <= 6; i++) {
            Check.due("say(7, 6, 6)", x.say(7, 6, 6), i);
            Check.due("told(15)", x.told(15), i);
        }
        Check.due("say(0, 0, 0) of a seventh", x.say(0, 0, 0), Check.FULL);
        Check.due("say(0, 7, 0) of a seventh", x.say(0, 7, 0), Check.OUTSIDE);
        Check.due("told(15)", x.told(15), 6);
    }

    private static void promise24() {
        LetterTray x = Check.game(Check.GAME, 8);
        Check.due("couldBe()", x.couldBe(), 255);
        x.say(0, 0, 0);
        Check.due("couldBe(): no a, no b", x.couldBe(), 192);
        x.say(7, 0, 0);
        Check.due("couldBe(): no h", x.couldBe(), 64);
        x.say(6, 4, 0);
        Check.due("couldBe(): deed", x.couldBe(), 64);
        x.say(6, 3, 0);
        Check.due("couldBe(): both cannot be", x.couldBe(), 0);
    }

    private static void promise25() {
        LetterTray x = Check.game(Check.VALUES + "w0ab;w0ba;w0cd;w0dc;", 4);
        Check.due("ask(): ab parts ab, ba, and the others", x.ask(), 0);
        x.say(0, 0, 0);
        Check.due("couldBe()", x.couldBe(), 12);
        Check.due("ask(): a word that could be", x.ask(), 2);
        x.say(2, 2, 0);
        Check.due("ask() of one", x.ask(), Check.NONE);
        x = Check.game(Check.VALUES + "w0ha;w0hb;w0hc;w0gabd;", 4);
        Check.due("ask(): the last parts them all", x.ask(), 3);
        x = Check.game(Check.VALUES + "w0abcd;w0a;w0b;w0c;w0d;", 5);
        x.say(0, 0, 1);
        Check.due("couldBe()", x.couldBe(), 28);
        Check.due("ask(): the first that leaves two alike", x.ask(), 2);
        x = Check.game(Check.VALUES + "w0gaha;w0ea;w0eb;w0fa;w0fb;", 5);
        x.tear();
        x.say(0, 0, 0);
        Check.due("couldBe()", x.couldBe(), 20);
        Check.due("ask(): a word that could not be parts as well", x.ask(), 1);
        x = Check.game(Check.VALUES + "w0a;", 1);
        Check.due("ask() of one word", x.ask(), Check.NONE);
        x = Check.game(Check.VALUES, 0);
        Check.due("ask() of no word", x.ask(), Check.NONE);
    }

    private static void promise26() {
        LetterTray x = Check.game(Check.GAME, 8);
        Check.due("write(8, 8)", x.write(8, 8), Check.UNKNOWN);
        Check.due("write(0, -2)", x.write(0, -2), Check.UNKNOWN);
        Check.due("write(8, 0)", x.write(8, 0), Check.OUTSIDE);
        Check.due("write(-1, -1)", x.write(-1, -1), Check.OUTSIDE);
        for (int i = 1; i <= 20; i++) {
            Check.due("write", x.write(i % 8, i % 9 - 1), i);
            Check.due("told(16)", x.told(16), i);
        }
        Check.due("write(0, 0) of a 21st", x.write(0, 0), Check.FULL);
        Check.due("write(0, 8) of a 21st", x.write(0, 8), Check.UNKNOWN);
        Check.due("write(8, 0) of a 21st", x.write(8, 0), Check.OUTSIDE);
        Check.due("told(16)", x.told(16), 20);
    }

    private static void promise27() {
        LetterTray x = Check.tray("aaabbb", "w0a;w0b;", 2);
        Check.due("judge()", x.judge(), Check.NONE);
        x.write(3, -1);
        x.write(7, -1);
        x.write(0, 1);
        x.write(1, 0);
        Check.due("judge(): the entry, not the place", x.judge(), 2);
        x.lay(1);
        Check.due("judge()", x.judge(), 3);
        x.lay(0);
        Check.due("judge()", x.judge(), Check.NONE);
        x.lay(0);
        x.lay(0);
        Check.due("judge(): a place that is not empty", x.judge(), 0);
        x.take(1);
        Check.due("judge()", x.judge(), Check.NONE);
        x.write(0, 0);
        Check.due("judge(): against another entry", x.judge(), 4);
        x.take(0);
        Check.due("judge()", x.judge(), 2);
    }

    private static void promise28() {
        LetterTray x = Check.game(Check.GAME, 8);
        Check.due("tear()", x.tear(), 0);
        x.say(0, 0, 0);
        x.say(1, 0, 0);
        x.write(0, 0);
        x.write(0, 0);
        x.write(0, 0);
        Check.due("tear()", x.tear(), 5);
        Check.due("told(15)", x.told(15), 0);
        Check.due("told(16)", x.told(16), 0);
        Check.due("couldBe()", x.couldBe(), 255);
        Check.due("judge()", x.judge(), Check.NONE);
        Check.due("tear()", x.tear(), 0);
        Check.due("say", x.say(0, 0, 0), 1);
        Check.due("write", x.write(0, 0), 1);
    }
}
