import java.util.Set;
import java.util.TreeSet;

/** Counts what was due and did not come; every test ends by close(). */
final class Check {
    static final int NONE = LetterTray.NONE;
    static final int UNKNOWN = LetterTray.UNKNOWN;
    static final int OUTSIDE = LetterTray.OUTSIDE;
    static final int NOT = LetterTray.NOT;
    static final int FULL = LetterTray.FULL;

    static final String VALUES = "v1,3,2,4,1,5,6,2;";
    static final String GAME = VALUES + "baaabbccdeefgh**;w0ab;w1cab;w2bac;w3aba;w0cabe;w1face;w3deed;w0h;";

    private static int right = 0;
    private static int wrong = 0;
    private static String sentence = "";
    private static final Set<Integer> promises = new TreeSet<>();

    private Check() {
    }

    /** The sentence of the document that the checks behind it hold to: it is told with each that fails. */
    static void promise(int number, String words) {
        promises.add(number);
        sentence = "Promise " + number + ", '" + words + "': ";
    }

    static void due(String call, long got, long want) {
        if (got == want) {
            right++;
        } else {
            wrong++;
            System.out.println(sentence + call + " answered " + got + ", due is " + want);
        }
    }

    static void feed(LetterTray x, String text) {
        for (int i = 0; i < text.length(); i++) {
            due("feed of letter " + i + " of " + text, x.feed(text.charAt(i)), i + 1);
        }
    }

    static LetterTray game(String text, int words) {
        LetterTray x = new LetterTray();
        feed(x, text);
        due("game() of " + text, x.game(), words);
        due("fault() of " + text, x.fault(), NONE);
        return x;
    }

    /** A game whose tray holds these: the bag is told to hold them alone, and they are all drawn. */
    static LetterTray tray(String tray, String words, int count) {
        LetterTray x = game(VALUES + (tray.isEmpty() ? "" : "b" + tray + ";") + words, count);
        for (int i = 0; i < tray.length(); i++) {
            due("a draw of " + tray, x.draw() >= 0 ? 1 : 0, 1);
        }
        return x;
    }

    static void close() {
        String held = promises.isEmpty() ? "" : "promises " + promises + ": ";
        System.out.println(held + right + " answers as due, " + wrong + " not");
        if (wrong != 0) {
            System.exit(1);
        }
    }
}
