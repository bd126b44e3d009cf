/** Games to try the edges on, and seeds by which the draws come out as they are wanted. */
final class Games {
    /** Ten words, the most that can be: a set of them has the bits 0 to 9. */
    static final String TEN = Check.VALUES
            + "baaaabbbbcccddeeffgh**;w0ab;w1cab;w2bac;w3aba;w0cabe;w1face;w3deed;w0b;w2a;w1abcabc;";

    private Games() {
    }

    static void feed(LetterTray x, String text) {
        for (int i = 0; i < text.length(); i++) {
            x.feed(text.charAt(i));
        }
    }

    static LetterTray told(String text) {
        LetterTray x = new LetterTray();
        feed(x, text);
        x.game();
        return x;
    }

    /** A game of which so many are drawn. */
    static LetterTray drawn(String text, int draws) {
        LetterTray x = told(text);
        for (int i = 0; i < draws; i++) {
            x.draw();
        }
        return x;
    }

    /** A game whose bag is told to hold these alone, all of which are drawn. */
    static LetterTray tray(String tray, String words) {
        return drawn(Check.VALUES + "b" + tray + ";" + words, tray.length());
    }

    /** So many times the same word on the table. */
    static LetterTray laid(LetterTray x, int w, int times) {
        for (int i = 0; i < times; i++) {
            x.lay(w);
        }
        return x;
    }

    /**
     * An object in which nothing is as in a new one: a tray, a table with blanks, deeds to undo, a seed, two images that
     * differ, what is said, a book, a fault of an earlier text, and a text that is being fed.
     */
    static LetterTray rich(String text) {
        LetterTray x = told(TEN);
        x.seed(22);
        for (int i = 0; i < 11; i++) {
            x.draw();
        }
        x.lay(3);
        x.keep(0);
        x.drift(6);
        x.keep(1);
        x.seed(4711);
        x.draw();
        x.lay(0);
        x.drift(4);
        x.change(1);
        x.give(2);
        x.say(0, 0, 2);
        x.say(7, 0, 1);
        x.write(0, x.laid(0, 0));
        x.write(7, Check.NONE);
        x.write(0, Check.NONE);
        feed(x, "v1;");
        x.game();
        feed(x, text);
        return x;
    }

    /** At this many turns: no object comes so far in its 512 calls, but the document tells of it. */
    static LetterTray atTurns(int turns) {
        LetterTray x = drawn(Check.VALUES + "baaa;w0a;w0b;", 2);
        x.lay(0);
        for (int i = 3; i < turns; i++) {
            x.change(0);
        }
        return x;
    }

    /** The draw of n from a seed, as the document tells it. */
    static int drawOf(long[] seed, int n) {
        seed[0] = (seed[0] * 1103515245L + 12345L) % 2147483648L;
        return (int) (seed[0] / 65536 % n);
    }

    /** The least seed from which the draws of n come out as told: n, what it comes to, n, what it comes to .. */
    static int seedFor(int... draws) {
        for (int start = 0; start < 10000000; start++) {
            long[] seed = {start};
            boolean fits = true;
            for (int i = 0; i < draws.length && fits; i += 2) {
                fits = drawOf(seed, draws[i]) == draws[i + 1];
            }
            if (fits) {
                return start;
            }
        }
        return -1;
    }

    /** The seed behind so many draws. */
    static long seedAfter(long start, int draws) {
        long[] seed = {start};
        for (int i = 0; i < draws; i++) {
            drawOf(seed, 1);
        }
        return seed[0];
    }
}
