/** The boundary cases of promises 1 to 4: a new object, the text, its faults; section 1 of the document's terms. */
public final class EdgeTextTest {
    private static final String V = Check.VALUES;
    private static final int END = V.length();
    private static final String NINE_WORDS = "w0a;w0b;w0c;w0d;w0e;w0f;w0g;w0h;w0aa;";

    public static void main(String[] args) {
        promise1NoGame();
        promise1Refuses();
        promise2Letters();
        promise2HowMany();
        promise2Full();
        promise2AfterGame();
        promise3Letters();
        promise3Longest();
        promise3Values();
        promise3ValuesCount();
        promise3ValuesFirst();
        promise3Once();
        promise3Bag();
        promise3Kind();
        promise3WordLetters();
        promise3WordsCount();
        promise3Figures();
        promise3FiguresComeRound();
        promise3Spaces();
        promise3End();
        promise3FirstFault();
        promise3LeastFault();
        promise3Twin();
        promise3EmptyText();
        promise3EmptyThen();
        promise3AsItWas();
        promise3Anew();
        promise3AnewTried();
        promise3AnewOfNothing();
        promise3HowManyWords();
        promise4None();
        promise4Latest();
        promise4Bounds();
        Check.close();
    }

    private static void taken(String text, int words) {
        LetterTray x = Games.told(text);
        Check.due("told(0) behind " + text, x.told(0), 1);
        Check.due("words of " + text, x.told(1), words);
        Check.due("fault() of " + text, x.fault(), Check.NONE);
    }

    private static void faulty(String text, int number, int place) {
        LetterTray x = new LetterTray();
        Games.feed(x, text);
        Check.due("game() of " + text, x.game(), -10 - number);
        Check.due("fault() of " + text, x.fault(), place);
        Check.due("told(0) behind " + text, x.told(0), 0);
        Check.due("told(2) behind " + text, x.told(2), 0);
    }

    private static void promise1NoGame() {
        Check.promise(1, "No GAME");
        LetterTray x = new LetterTray();
        int[] due = {0, 0, 0, 0, 0, 0, 0, 0, 0, Check.NONE, 1, 0, 0, 255, 0, 0, 0, 0};
        for (int what = 0; what < due.length; what++) {
            Check.due("told(" + what + ")", x.told(what), due[what]);
        }
        for (int letter = 0; letter <= 8; letter++) {
            for (int what = 0; what <= 2; what++) {
                Check.due("letters(" + letter + ", " + what + ")", x.letters(letter, what), 0);
            }
        }
        Check.due("first(0)", x.first(0), Check.NONE);
        Check.due("couldBe()", x.couldBe(), 0);
        Check.due("ask()", x.ask(), Check.NONE);
        Check.due("judge()", x.judge(), Check.NONE);
        Check.due("tear()", x.tear(), 0);
        Check.due("seed(0)", x.seed(0), 0);
    }

    private static void promise1Refuses() {
        Check.promise(1, "No GAME: what needs one is refused, and changes nothing");
        Whole.refused("word(0, 0)", Check.UNKNOWN, LetterTray::new, x -> x.word(0, 0));
        Whole.refused("spelt(0, 0)", Check.UNKNOWN, LetterTray::new, x -> x.spelt(0, 0));
        Whole.refused("laid(0, 0)", Check.UNKNOWN, LetterTray::new, x -> x.laid(0, 0));
        Whole.refused("draw()", Check.NOT, LetterTray::new, LetterTray::draw);
        Whole.refused("give(0)", Check.NOT, LetterTray::new, x -> x.give(0));
        Whole.refused("change(8)", Check.NOT, LetterTray::new, x -> x.change(8));
        Whole.refused("lay(0)", Check.UNKNOWN, LetterTray::new, x -> x.lay(0));
        Whole.refused("take(0)", Check.UNKNOWN, LetterTray::new, x -> x.take(0));
        Whole.refused("drift(1)", Check.NOT, LetterTray::new, x -> x.drift(1));
        Whole.refused("undo(1)", Check.NOT, LetterTray::new, x -> x.undo(1));
        Whole.refused("needs(0, 0)", Check.UNKNOWN, LetterTray::new, x -> x.needs(0, 0));
        Whole.refused("ladder(0, 0, 0)", Check.UNKNOWN, LetterTray::new, x -> x.ladder(0, 0, 0));
        Whole.refused("far(0, 0)", Check.UNKNOWN, LetterTray::new, x -> x.far(0, 0));
        Whole.refused("right(0, 0, 0)", Check.UNKNOWN, LetterTray::new, x -> x.right(0, 0, 0));
        Whole.refused("say(0, 0, 0)", Check.UNKNOWN, LetterTray::new, x -> x.say(0, 0, 0));
        Whole.refused("write(0, 0)", Check.UNKNOWN, LetterTray::new, x -> x.write(0, 0));
        Whole.refused("goBack(0)", Check.NOT, LetterTray::new, x -> x.goBack(0));
    }

    private static void promise2Letters() {
        Check.promise(2, "A letter (0 .. 255) .. OUTSIDE");
        LetterTray x = new LetterTray();
        Check.due("feed(0)", x.feed(0), 1);
        Check.due("feed(255)", x.feed(255), 2);
        int[] outside = {-1, 256, Integer.MIN_VALUE, Integer.MAX_VALUE, 256 + 'v', 65536 + 'v'};
        for (int letter : outside) {
            Whole.refused("feed(" + letter + ")", Check.OUTSIDE, () -> Games.rich("v1,2"), y -> y.feed(letter));
        }
    }

    private static void promise2HowMany() {
        Check.promise(2, "how many it has");
        LetterTray x = new LetterTray();
        for (int i = 1; i <= 240; i++) {
            Check.due("feed of letter " + i, x.feed(' '), i);
            Check.due("told(2)", x.told(2), i);
        }
    }

    private static LetterTray fullText() {
        LetterTray x = Games.drawn(V + "baab;w0ab;", 2);
        Games.feed(x, V + "ba;w0ba;" + " ".repeat(240 - END - 8));
        return x;
    }

    private static void promise2Full() {
        Check.promise(2, "FULL (240)");
        Check.due("told(2)", fullText().told(2), 240);
        Whole.refused("feed(32) of a 241st", Check.FULL, EdgeTextTest::fullText, x -> x.feed(32));
        Whole.refused("feed('x') of a 241st", Check.FULL, EdgeTextTest::fullText, x -> x.feed('x'));
        Whole.refused("feed(0) of a 241st", Check.FULL, EdgeTextTest::fullText, x -> x.feed(0));
        Check.promise(2, "OUTSIDE, FULL (240): OUTSIDE first");
        Whole.refused("feed(256) of a 241st", Check.OUTSIDE, EdgeTextTest::fullText, x -> x.feed(256));
        Whole.refused("feed(-1) of a 241st", Check.OUTSIDE, EdgeTextTest::fullText, x -> x.feed(-1));
    }

    private static void promise2AfterGame() {
        Check.promise(2, "how many it has: from 1 on behind game(), with a FAULT, too");
        LetterTray x = fullText();
        Check.due("game()", x.game(), 1);
        Check.due("feed", x.feed('v'), 1);
        Check.due("feed", x.feed('x'), 2);
        Check.due("game()", x.game(), -11);
        Check.due("feed", x.feed('v'), 1);
    }

    private static void promise3Letters() {
        Check.promise(3, "LETTERS are a to h .. 8 is a BLANK ('*')");
        LetterTray x = Games.told(V + "bah*;w0ah;");
        Check.due("bag of a", x.letters(0, 0), 1);
        Check.due("bag of h", x.letters(7, 0), 1);
        Check.due("bag of blanks", x.letters(8, 0), 1);
        Check.due("spelt(0, 0)", x.spelt(0, 0), 0);
        Check.due("spelt(0, 1)", x.spelt(0, 1), 7);
        char[] none = {'`', 'i', 'A', 'H', 'I', '@', ')', '+', 'z', (char) 0, (char) 255, (char) ('a' + 128)};
        for (char sign : none) {
            faulty(V + "b" + sign + ";", 1, END + 1);
            faulty(V + "ba" + sign + ";", 1, END + 2);
            faulty(V + "w0" + sign + ";", 1, END + 2);
            faulty(V + "w0a" + sign + ";", 1, END + 3);
        }
        Check.promise(3, "a BLANK in a WORD");
        faulty(V + "w0*;", 1, END + 2);
        faulty(V + "w0abcde*;", 1, END + 7);
    }

    private static void promise3Longest() {
        Check.promise(3, "a text (240 letters at most)");
        taken(V + "w0ab;" + " ".repeat(240 - END - 10) + "w0ba;", 2);
        taken(V + "w0ab;" + " ".repeat(239 - END - 10) + "w0ba;", 2);
        faulty(V + "w0ab;" + " ".repeat(240 - END - 6) + "x", 1, 239);
        LetterTray x = new LetterTray();
        Games.feed(x, V + "w0ab;" + " ".repeat(240 - END - 9) + "w0ba");
        Check.due("the ';' that is a 241st", x.feed(';'), Check.FULL);
        Check.due("game() without it", x.game(), -11);
        Check.due("fault()", x.fault(), 240);
    }

    private static String values(int place, String value) {
        StringBuilder text = new StringBuilder("v");
        for (int i = 0; i < 8; i++) {
            text.append(i == place ? value : "5").append(i < 7 ? ',' : ';');
        }
        return text.toString();
    }

    private static void promise3Values() {
        Check.promise(3, "VALUES of a to h: 8 numbers, 1 .. 9");
        for (int place = 0; place < 8; place++) {
            int at = 1 + 2 * place;
            for (int value = 1; value <= 9; value++) {
                LetterTray x = Games.told(values(place, "" + value));
                Check.due("value " + value + " in place " + place, x.letters(place, 2), value);
            }
            faulty(values(place, "0"), 2, at);
            faulty(values(place, "10"), 2, at);
            faulty(values(place, "00"), 2, at);
            faulty(values(place, "999"), 2, at);
            faulty(values(place, ""), 1, at);
            faulty(values(place, "-1"), 1, at);
        }
    }

    private static void promise3ValuesCount() {
        Check.promise(3, "a ninth N: at its ',', the ';' behind fewer than 8");
        taken("v1,2,3,4,5,6,7,8;", 0);
        faulty("v1,2,3,4,5,6,7,8,9;", 1, 16);
        faulty("v1,2,3,4,5,6,7,8 , 9;", 1, 17);
        faulty("v1,2,3,4,5,6,7,8,0;", 1, 16);
        String fewer = "v1";
        for (int count = 1; count <= 7; count++) {
            faulty(fewer + ";", 1, fewer.length());
            fewer += ",1";
        }
        faulty("v;", 1, 1);
        faulty("v1,2,3,4,5,6,7,;", 1, 15);
    }

    private static void promise3ValuesFirst() {
        Check.promise(3, "another word first than 'v'");
        faulty("ba;" + V, 1, 0);
        faulty("w0a;" + V, 1, 0);
        faulty("  b", 1, 2);
        faulty("  w", 1, 2);
        faulty(";" + V, 1, 0);
        faulty("V", 1, 0);
        taken("  " + V, 0);
        Check.promise(3, "another one than a word .. that is due");
        faulty(V + ";", 1, END);
        faulty(V + "x", 1, END);
        faulty(V + "B", 1, END);
        faulty(V + "a", 1, END);
        faulty(V + "0", 1, END);
        faulty(V + "ba;;", 1, END + 3);
        faulty(V + "w0a;;", 1, END + 4);
    }

    private static void promise3Once() {
        Check.promise(3, "'v', 'b' again .. (at it)");
        faulty(V + V, 3, END);
        faulty(V + "w0a;" + V, 3, END + 4);
        faulty(V + "ba;v", 3, END + 3);
        faulty(V + "  v1", 3, END + 2);
        taken(V + "ba;", 0);
        faulty(V + "ba;ba;", 3, END + 3);
        faulty(V + "ba;w0a;bb;", 3, END + 7);
        faulty(V + "ba; b", 3, END + 4);
        taken(V + "w0a;ba;w0b;", 2);
        Check.promise(3, "'v', 'b' again: in this text, whatever earlier ones had");
        LetterTray x = new LetterTray();
        String[] texts = {V + "ba;", V + "baa;", V + "baaa;", V + "baaaa;x", V + "baaaaa;", V + "ba;"};
        int[] bags = {1, 2, 3, 3, 5, 1};
        for (int i = 0; i < texts.length; i++) {
            Games.feed(x, texts[i]);
            Check.due("game() of " + texts[i], x.game(), i == 3 ? -11 : 0);
            Check.due("THE BAG of " + texts[i], x.told(3), bags[i]);
        }
    }

    private static void promise3Bag() {
        Check.promise(3, "'b' and 1 to 40 LETTERS or BLANKS");
        faulty(V + "b;", 1, END + 1);
        faulty(V + "b ;", 1, END + 2);
        Check.due("a bag of one letter", Games.told(V + "ba;").told(3), 1);
        Check.due("a bag of one blank", Games.told(V + "b*;").told(3), 1);
        Check.due("a bag of 39", Games.told(V + "b" + "a".repeat(39) + ";").told(3), 39);
        Check.due("a bag of 40", Games.told(V + "b" + "h".repeat(40) + ";").letters(7, 0), 40);
        Check.due("a bag of 40 blanks", Games.told(V + "b" + "*".repeat(40) + ";").letters(8, 0), 40);
        Check.due("a bag of 40 with spaces", Games.told(V + "b" + "a ".repeat(40) + ";").told(3), 40);
        Check.promise(3, "a 41st of 'b' (at it)");
        faulty(V + "b" + "a".repeat(41) + ";", 2, END + 41);
        faulty(V + "b" + "*".repeat(41) + ";", 2, END + 41);
        faulty(V + "b" + "a".repeat(40) + "*;", 2, END + 41);
        faulty(V + "b" + "a".repeat(40) + "  h;", 2, END + 43);
        faulty(V + "b" + "a".repeat(60) + ";", 2, END + 41);
        Check.promise(3, "THE BAG; once: none told, none in it");
        Check.due("no bag", Games.told(V + "w0a;").told(3), 0);
    }

    private static void promise3Kind() {
        Check.promise(3, "KIND K, 0 .. 3");
        for (int kind = 0; kind <= 3; kind++) {
            Check.due("kind " + kind, Games.told(V + "w" + kind + "a;").word(0, 0), kind);
        }
        faulty(V + "w4a;", 2, END + 1);
        faulty(V + "w9a;", 2, END + 1);
        faulty(V + "w10a;", 2, END + 1);
        faulty(V + "w 4a;", 2, END + 2);
        faulty(V + "w-1a;", 1, END + 1);
        faulty(V + "wa;", 1, END + 1);
        faulty(V + "w;", 1, END + 1);
    }

    private static void promise3WordLetters() {
        Check.promise(3, "'w' K and 1 to 6 LETTERS");
        faulty(V + "w0;", 1, END + 2);
        faulty(V + "w0 ;", 1, END + 3);
        Check.due("a word of 1", Games.told(V + "w0h;").word(0, 1), 1);
        Check.due("a word of 6", Games.told(V + "w0hhhhhh;").word(0, 1), 6);
        Check.due("a word of 6 with spaces", Games.told(V + "w0 a b c d e f ;").word(0, 1), 6);
        Check.promise(3, "a seventh LETTER of 'w' (at it)");
        faulty(V + "w0hhhhhhh;", 2, END + 8);
        faulty(V + "w0abcdefg;", 2, END + 8);
        faulty(V + "w000abcdefg;", 2, END + 10);
        faulty(V + "w0abcdef g;", 2, END + 9);
        faulty(V + "w0abcdefghabcdefgh;", 2, END + 8);
        faulty(V + "w0a;w0bbbbbbb;", 2, END + 12);
    }

    private static void promise3WordsCount() {
        Check.promise(3, "10 WORDS at most");
        taken(V, 0);
        taken(V + "w0a;", 1);
        taken(V + NINE_WORDS, 9);
        taken(V + NINE_WORDS + "w0bb;", 10);
        taken(V + NINE_WORDS + "w0bb;ba;", 10);
        Check.promise(3, "an 11th 'w' (at it)");
        String ten = V + NINE_WORDS + "w0bb;";
        faulty(ten + "w0cc;", 3, ten.length());
        faulty(ten + "  w", 3, ten.length() + 2);
        faulty(ten + "ba;w9", 3, ten.length() + 3);
    }

    private static void promise3Figures() {
        Check.promise(3, "NUMBERS have one to three figures .. a NUMBER of four figures or more (at its first)");
        Check.due("v007", Games.told(values(0, "007")).letters(0, 2), 7);
        Check.due("v07", Games.told(values(7, "07")).letters(7, 2), 7);
        faulty(values(0, "0007"), 2, 1);
        faulty(values(7, "0007"), 2, 15);
        faulty(values(0, "0000"), 2, 1);
        faulty(values(3, "1000"), 2, 7);
        faulty(values(3, "00000000000000000001"), 2, 7);
        Check.due("w000", Games.told(V + "w000a;").word(0, 0), 0);
        Check.due("w003", Games.told(V + "w003a;").word(0, 0), 3);
        Check.due("w02", Games.told(V + "w02a;").word(0, 0), 2);
        faulty(V + "w004a;", 2, END + 1);
        faulty(V + "w0000a;", 2, END + 1);
        faulty(V + "w0003a;", 2, END + 1);
        Check.promise(3, "a number that is due: figures are 0 to 9");
        faulty(values(0, "/"), 1, 1);
        faulty(values(0, ":"), 1, 1);
        faulty(values(0, "1/"), 1, 2);
        faulty(values(0, "1:"), 1, 2);
        faulty(V + "w/a;", 1, END + 1);
        faulty(V + "w:a;", 1, END + 1);
    }

    /** A reckoning in int or long would take these for 1 to 9, or 0 to 3. */
    private static void promise3FiguresComeRound() {
        Check.promise(3, "a NUMBER of four figures or more, or out of its bounds: none comes round to a small one");
        String[] round = {"257", "65537", "2147483649", "4294967297", "4294967296", "8589934593",
            "9223372036854775809", "18446744073709551617", "340282366920938463463374607431768211457"};
        for (String number : round) {
            faulty(values(0, number), 2, 1);
            faulty(values(7, number), 2, 15);
            faulty(V + "w" + number + "a;", 2, END + 1);
        }
    }

    private static void promise3Spaces() {
        Check.promise(3, "blanks (32) may stand anywhere but within NUMBERS");
        LetterTray x = Games.told("  v  1 , 3 ,2,4,1,5,6, 2  ;  b  a  *  ;  w  2  a  b  ;  ");
        Check.due("words", x.told(1), 1);
        Check.due("value of b", x.letters(1, 2), 3);
        Check.due("value of h", x.letters(7, 2), 2);
        Check.due("the bag", x.told(3), 2);
        Check.due("kind", x.word(0, 0), 2);
        Check.due("letters", x.word(0, 1), 2);
        faulty(values(0, "0 1"), 2, 1);
        faulty(values(0, "1 1"), 1, 3);
        faulty(values(7, "1 1"), 1, 17);
        faulty(V + "w0 0a;", 1, END + 3);
        faulty(V + "w0 01a;", 1, END + 3);
        Check.promise(3, "blanks (32): no other sign is one");
        int[] others = {0, 9, 10, 13, 31, 33, 127, 160, 255};
        for (int sign : others) {
            faulty((char) sign + V, 1, 0);
            faulty("v" + (char) sign + V.substring(1), 1, 1);
            faulty("v1" + (char) sign, 1, 2);
            faulty(V + (char) sign, 1, END);
            faulty(V + "ba" + (char) sign + ";", 1, END + 2);
            faulty(V + "w0a" + (char) sign + ";", 1, END + 3);
        }
    }

    private static void promise3End() {
        Check.promise(3, "FAULTS, at the first letter that has one (the end at the text's length)");
        for (int length = 1; length < END; length++) {
            faulty(V.substring(0, length), 1, length);
            faulty(V.substring(0, length) + "  ", 1, length + 2);
        }
        String[] cut = {"b", "ba", "ba*", "w", "w0", "w0a", "w0abcdef", "b" + "a".repeat(40)};
        for (String clause : cut) {
            faulty(V + clause, 1, END + clause.length());
            faulty(V + clause + " ", 1, END + clause.length() + 1);
        }
        faulty(V + "ba" + " ".repeat(240 - END - 2), 1, 240);
        faulty(V + " ".repeat(240 - END - 1) + "w", 1, 240);
        faulty(V + " ".repeat(240 - END - 2) + "w3", 1, 240);
        faulty(V + " ".repeat(240 - END - 1) + "b", 1, 240);
        Check.promise(3, "the end: what an earlier text had there is gone");
        LetterTray x = Games.told(V + "w0ab;w0ba;");
        Games.feed(x, V + "w0ab");
        Check.due("game()", x.game(), -11);
        Check.due("fault()", x.fault(), END + 4);
        Games.feed(x, "v1,3,2,4,1,5,6,2");
        Check.due("game()", x.game(), -11);
        Check.due("fault()", x.fault(), 16);
    }

    private static void promise3FirstFault() {
        Check.promise(3, "FAULTS, at the first letter that has one");
        faulty("v0,x", 2, 1);
        faulty("v1x,0", 1, 2);
        faulty("v12345x", 2, 1);
        faulty(V + "w4*;", 2, END + 1);
        faulty(V + "w4;", 2, END + 1);
        faulty(V + "ba;bx", 3, END + 3);
        faulty(V + "w0a;w1a;x", 4, END + 7);
        faulty(V + "w0a;w1a;v", 4, END + 7);
        faulty(V + "w0a;w4a;", 2, END + 5);
        faulty(V + "w0a;x;w1a;", 1, END + 4);
    }

    private static void promise3LeastFault() {
        Check.promise(3, "of these the least");
        faulty(V + "b" + "a".repeat(40) + "i;", 1, END + 41);
        faulty(V + "b" + "a".repeat(40) + "1;", 1, END + 41);
        faulty(V + "w0abcdef*;", 1, END + 8);
        faulty(V + "w0abcdefi;", 1, END + 8);
        faulty(V + "w0abcdef,;", 1, END + 8);
        faulty("b;b", 1, 0);
    }

    private static void promise3Twin() {
        Check.promise(3, "a WORD whose LETTERS are, in order, those of one told already (at its ';')");
        faulty(V + "w0a;w0a;", 4, END + 7);
        faulty(V + "w0ab;w3ab;", 4, END + 9);
        faulty(V + "w0ab;w1cd;w2ab ;", 4, END + 15);
        faulty(V + "w0abcdef;w0ab cdef;", 4, END + 18);
        faulty(V + NINE_WORDS + "w0a;", 4, END + NINE_WORDS.length() + 3);
        faulty(V + NINE_WORDS + "w0aa;", 4, END + NINE_WORDS.length() + 4);
        faulty(V + "w0ab;w1ab", 1, END + 9);
        taken(V + "w0ab;w0ba;w0a;w0b;w0abb;w0aba;w0aab;", 7);
        taken(V + "w0abcdef;w0abcde;w0abcdeg;w0bbcdef;", 4);
        Check.promise(3, "one told already: in this text");
        LetterTray x = Games.told(V + "w0ab;w0cd;");
        Games.feed(x, V + "w0cd;w0ab;");
        Check.due("game()", x.game(), 2);
        Games.feed(x, V + "w0ee;w0ee;");
        Check.due("game()", x.game(), -14);
        Games.feed(x, V + "w0ee;");
        Check.due("game()", x.game(), 1);
    }

    private static void promise3EmptyText() {
        Check.promise(3, "An empty text (or one of spaces alone): no GAME");
        for (int spaces : new int[] {0, 1, 2, 239, 240}) {
            LetterTray x = new LetterTray();
            Games.feed(x, " ".repeat(spaces));
            Check.due("game() of " + spaces + " spaces", x.game(), 0);
            Check.due("fault()", x.fault(), Check.NONE);
            Check.due("told(0)", x.told(0), 0);
            Check.due("told(2)", x.told(2), 0);
            Check.due("drift(1)", x.drift(1), Check.NOT);
        }
        LetterTray x = Games.told(V);
        Check.due("told(0) of values alone", x.told(0), 1);
        Check.due("drift(1) of values alone", x.drift(1), 0);
    }

    private static void promise3EmptyThen() {
        Check.promise(3, "THE TEXT (it is empty then, with a FAULT, too)");
        LetterTray x = Games.told(V + "w0a;");
        Check.due("told(2) behind a game", x.told(2), 0);
        Games.feed(x, V + "w0b;w0");
        Check.due("told(2)", x.told(2), END + 6);
        Check.due("game()", x.game(), -11);
        Check.due("told(2) behind a fault", x.told(2), 0);
        Games.feed(x, "  ");
        Check.due("game()", x.game(), 0);
        Check.due("told(2) behind spaces", x.told(2), 0);
    }

    private static LetterTray richThen(String text) {
        LetterTray x = Games.rich(text);
        x.game();
        return x;
    }

    private static void promise3AsItWas() {
        Check.promise(3, "-10 less the number of its FAULT (all is as it was)");
        String[] texts = {V + "baa;w0h;x", V + "baa;w0h;w9", V + "baa;w0h;b", V + "baa;w0h;w1h;"};
        for (int i = 0; i < texts.length; i++) {
            String text = texts[i];
            Check.due("game() of " + text, Games.rich(text).game(), -11 - i);
            Whole.alike("behind " + text, () -> richThen(text), () -> Games.rich(""));
        }
        Whole.alike("two faults", () -> {
            LetterTray x = richThen(texts[0]);
            Games.feed(x, texts[3]);
            x.game();
            return x;
        }, () -> Games.rich(""));
    }

    private static LetterTray withSeed(LetterTray x, int seed) {
        x.seed(seed);
        return x;
    }

    private static void promise3Anew() {
        Check.promise(3, "THE BAG full, THE TRAY, THE TABLE empty, SCORE 0, TURNS 0; nothing SAID, no BOOK; IMAGES,"
                + " what could be undone are gone; THE SEED stays");
        int seed = Games.rich("").seed(0);
        Check.due("the seed is not 0", seed != 0 ? 1 : 0, 1);
        String other = V + "bab;w2ba;w0h;";
        Whole.alike("another game", () -> richThen(other), () -> withSeed(Games.told(other), seed));
        Whole.alike("a game of values alone", () -> richThen(V), () -> withSeed(Games.told(V), seed));
        LetterTray x = Games.rich(Games.TEN);
        Check.due("game()", x.game(), 10);
        Check.due("the seed", x.seed(0), seed);
        Check.due("fault()", x.fault(), Check.NONE);
        Check.due("goBack(0)", x.goBack(0), Check.NOT);
        Check.due("goBack(1)", x.goBack(1), Check.NOT);
        Check.due("undo(1)", x.undo(1), Check.NOT);
        Whole.alike("the same game again", () -> richThen(Games.TEN), () -> withSeed(Games.told(Games.TEN), seed));
    }

    /** What was tried in the earlier game, with the same tray, is not told of the next one. */
    private static void promise3AnewTried() {
        Check.promise(3, "THE TEXT becomes THE GAME: what is TRIED is tried with its WORDS");
        LetterTray x = Games.tray("aab", "w0a;w0b;");
        Check.due("ALL", x.told(10), 1);
        Check.due("MOST", x.told(11), 5);
        Games.feed(x, V + "baab;w1ab;w0a;w0aa;");
        Check.due("game()", x.game(), 3);
        for (int i = 0; i < 3; i++) {
            x.draw();
        }
        Check.due("MOST", x.told(11), 9);
        Check.due("MANY", x.told(12), 2);
        Check.due("ALL", x.told(10), 1);
        Check.due("first(1)", x.first(1), 1);
        Check.due("CAN", x.told(8), 7);
        Check.due("BEST", x.told(9), 0);
    }

    private static void promise3AnewOfNothing() {
        Check.promise(3, "An empty text becomes THE GAME: no GAME, and nothing of the earlier one");
        int seed = Games.rich("").seed(0);
        Whole.alike("an empty text", () -> richThen(""), () -> withSeed(new LetterTray(), seed));
        Whole.alike("a text of spaces", () -> richThen("   "), () -> withSeed(new LetterTray(), seed));
        Check.due("fault()", richThen("").fault(), Check.NONE);
    }

    private static void promise3HowManyWords() {
        Check.promise(3, "how many WORDS");
        StringBuilder text = new StringBuilder(V);
        int count = 0;
        for (String clause : (NINE_WORDS + "w0bb;").split("(?<=;)")) {
            text.append(clause);
            count++;
            LetterTray x = new LetterTray();
            Games.feed(x, text.toString());
            Check.due("game() of " + text, x.game(), count);
        }
        Check.due("words tried", count, 10);
    }

    private static void promise4None() {
        Check.promise(4, "NONE");
        Check.due("fault() of a new object", new LetterTray().fault(), Check.NONE);
        LetterTray x = new LetterTray();
        Games.feed(x, "x");
        Check.due("fault() ahead of game()", x.fault(), Check.NONE);
        Check.due("fault() of a good text", Games.told(V).fault(), Check.NONE);
        Check.due("fault() of an empty text", Games.told("").fault(), Check.NONE);
    }

    private static void promise4Latest() {
        Check.promise(4, "The letter of the FAULT of the latest game()");
        LetterTray x = Games.told("v1;");
        Check.due("fault()", x.fault(), 2);
        x.feed('w');
        Check.due("fault() behind feed", x.fault(), 2);
        x.draw();
        x.tear();
        x.keep(0);
        x.goBack(0);
        Check.due("fault() behind other calls", x.fault(), 2);
        x.game();
        Check.due("fault() of the next fault", x.fault(), 0);
        Games.feed(x, V);
        Check.due("game()", x.game(), 0);
        Check.due("fault() of a game", x.fault(), Check.NONE);
        Games.feed(x, "v1,");
        x.game();
        Check.due("fault()", x.fault(), 3);
        x.game();
        Check.due("fault() of an empty text", x.fault(), Check.NONE);
    }

    private static void promise4Bounds() {
        Check.promise(4, "The letter of the FAULT: from 0 to the text's length, 240");
        Check.due("the first letter", Games.told("x").fault(), 0);
        Check.due("the first letter, of many", Games.told("x" + V).fault(), 0);
        Check.due("the last letter", Games.told(V + " ".repeat(239 - END) + "x").fault(), 239);
        Check.due("the end", Games.told(V + " ".repeat(239 - END) + "w").fault(), 240);
    }
}
