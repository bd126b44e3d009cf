import java.util.function.Supplier;

/** The boundary cases of promises 17 to 22: what is tried. */
public final class EdgeTriedTest {
    private static final String V = Check.VALUES;
    private static final int LEAST = Integer.MIN_VALUE;
    private static final int GREATEST = Integer.MAX_VALUE;
    private static final Supplier<LetterTray> RICH = () -> Games.rich("v1,2");
    /** From each to the next one letter is changed, and no way is shorter. */
    private static final String CHAIN = "w0aaaaaa;w0aaaaab;w0aaaabb;w0aaabbb;w0aabbbb;w0abbbbb;w0bbbbbb;w0bbbbbc;"
            + "w0bbbbcc;w0bbbccc;";

    public static void main(String[] args) {
        promise17Unknown();
        promise17Outside();
        promise17HowOften();
        promise18None();
        promise18Last();
        promise18Fewest();
        promise18Least();
        promise19Unknown();
        promise19Outside();
        promise19Itself();
        promise19None();
        promise19Steps();
        promise19Next();
        promise19Longest();
        promise20Unknown();
        promise20Outside();
        promise20Bounds();
        promise21Unknown();
        promise21Outside();
        promise21Bounds();
        promise22Outside();
        promise22Bounds();
        promise22Cut();
        Check.close();
    }

    private static void promise17Unknown() {
        Check.promise(17, "NEEDS: UNKNOWN");
        LetterTray x = RICH.get();
        Check.due("needs(0, 1) of ten", x.needs(0, 1), 1);
        Check.due("needs(9, 2) of ten", x.needs(9, 2), 2);
        for (int w : new int[] {-1, 10, LEAST, GREATEST}) {
            Whole.refused("needs(" + w + ", 0)", Check.UNKNOWN, RICH, y -> y.needs(w, 0));
            Whole.refused("needs(" + w + ", 8), UNKNOWN first", Check.UNKNOWN, RICH, y -> y.needs(w, 8));
        }
        Check.due("needs(1, 0) of one", Games.told(V + "w0a;").needs(1, 0), Check.UNKNOWN);
    }

    private static void promise17Outside() {
        Check.promise(17, "a LETTER 0 .. 7: OUTSIDE");
        LetterTray x = Games.told(V + "w0ah;");
        Check.due("needs(0, 0)", x.needs(0, 0), 1);
        Check.due("needs(0, 7)", x.needs(0, 7), 1);
        for (int letter : new int[] {-1, 8, 9, LEAST, GREATEST}) {
            Whole.refused("needs(0, " + letter + ")", Check.OUTSIDE, RICH, y -> y.needs(0, letter));
            Whole.refused("needs(9, " + letter + ")", Check.OUTSIDE, RICH, y -> y.needs(9, letter));
        }
    }

    private static void promise17HowOften() {
        Check.promise(17, "a LETTER, how often it is in it: 0 to 6 times");
        String word = "";
        for (int times = 1; times <= 6; times++) {
            word += "h";
            LetterTray x = Games.told(V + "w0" + word + ";");
            Check.due("h in " + word, x.needs(0, 7), times);
            Check.due("g in " + word, x.needs(0, 6), 0);
        }
        LetterTray x = Games.told(V + "w0abcabc;w0ab;");
        Games.feed(x, V + "w0cc;");
        x.game();
        Check.due("nothing of the earlier game", x.needs(0, 0), 0);
    }

    private static void row(String label, LetterTray x, int... row) {
        for (int k = 0; k < row.length; k++) {
            Check.due(label + ": first(" + k + ")", x.first(k), row[k]);
        }
        for (int k : new int[] {row.length, row.length + 1, 12, 13, -1, LEAST, GREATEST}) {
            Check.due(label + ": first(" + k + ")", x.first(k), Check.NONE);
        }
    }

    private static void promise18None() {
        Check.promise(18, "FIRST: the k-th; NONE");
        row("no game", new LetterTray());
        row("no word", Games.tray("aab", ""));
        row("an empty tray", Games.told(V + "baab;w0a;"));
        row("none can be laid", Games.tray("aab", "w0c;"));
        Check.promise(18, "NONE: nothing changes by it");
        for (int k : new int[] {-1, 12, LEAST, GREATEST}) {
            Whole.unchanged("first(" + k + ")", RICH, x -> x.first(k));
        }
    }

    private static void promise18Last() {
        Check.promise(18, "FIRST: the k-th, from 0 to the last");
        row("one", Games.tray("a", "w0a;"), 0);
        row("two", Games.tray("aa", "w0a;"), 0, 0);
        row("eleven", Games.tray("***********", "w0a;"), 0, 0, 0, 0, 0, 0, 0, 0, 0, 0, 0);
        LetterTray x = Games.tray("************", "w0a;");
        for (int k = 0; k < 12; k++) {
            Check.due("first(" + k + ") of twelve", x.first(k), 0);
        }
        Check.due("first(12) of twelve", x.first(12), Check.NONE);
        Check.due("first(-1) of twelve", x.first(-1), Check.NONE);
        x = Games.laid(Games.tray("aaaaaaaaa", "w0a;"), 0, 8);
        row("a full table", x, 0);
        x.take(0);
        row("one was taken back", x, 0, 0);
    }

    private static void promise18Fewest() {
        Check.promise(18, "MANY: of ROWS of that WORTH the fewest WORDS");
        row("one of four, not two of two", Games.tray("abcd", "w0ab;w0cd;w0abcd;"), 2);
        row("two of six, not twelve", Games.tray("************", "w0g;w0gggggg;"), 1, 1);
        row("many, if that is worth more", Games.tray("aaaa", "w0aaaa;w1a;"), 1, 1, 1, 1);
    }

    private static void promise18Least() {
        Check.promise(18, "the ROW with the least WORDS one by one (in rising order, the first as little as can be)");
        row("0 and 3 ahead of 1 and 2", Games.tray("abcd", "w0cd;w0abc;w0d;w0ab;"), 0, 3);
        row("the first is as little as can be, the second is greater", Games.tray("abcd", "w0d;w0ab;w0cd;w0abc;"), 0, 3);
        row("like ones: the least", Games.tray("abab", "w0ba;w0ab;"), 0, 0);
        row("bits 0 and 9", Games.tray("ah", "w0a;w0b;w0c;w0d;w0e;w0f;w0g;w0bb;w0cc;w0h;"), 0, 9);
        row("the last alone", Games.tray("h", "w0a;w0b;w0c;w0d;w0e;w0f;w0g;w0bb;w0cc;w0h;"), 9);
    }

    private static void promise19Unknown() {
        Check.promise(19, "LADDER: UNKNOWN");
        for (int w : new int[] {-1, 10, LEAST, GREATEST}) {
            Whole.refused("ladder(" + w + ", 0, 0)", Check.UNKNOWN, RICH, y -> y.ladder(w, 0, 0));
            Whole.refused("ladder(9, " + w + ", 1)", Check.UNKNOWN, RICH, y -> y.ladder(9, w, 1));
            Whole.refused("ladder(" + w + ", " + w + ", 0)", Check.UNKNOWN, RICH, y -> y.ladder(w, w, 0));
            Whole.refused("ladder(0, " + w + ", 2), UNKNOWN first", Check.UNKNOWN, RICH, y -> y.ladder(0, w, 2));
            Whole.refused("ladder(" + w + ", 0, -1), UNKNOWN first", Check.UNKNOWN, RICH, y -> y.ladder(w, 0, -1));
        }
        Check.due("ladder(0, 1, 0) of one", Games.told(V + "w0a;").ladder(0, 1, 0), Check.UNKNOWN);
        Check.due("ladder(1, 0, 0) of one", Games.told(V + "w0a;").ladder(1, 0, 0), Check.UNKNOWN);
    }

    private static void promise19Outside() {
        Check.promise(19, "what = 0 .. 1: OUTSIDE");
        for (int what : new int[] {-1, 2, LEAST, GREATEST}) {
            Whole.refused("ladder(0, 9, " + what + ")", Check.OUTSIDE, RICH, y -> y.ladder(0, 9, what));
            Whole.refused("ladder(9, 9, " + what + ")", Check.OUTSIDE, RICH, y -> y.ladder(9, 9, what));
        }
    }

    private static void promise19Itself() {
        Check.promise(19, "UNKNOWN (alike is well); 0 and itself from one to itself");
        LetterTray x = RICH.get();
        for (int w = 0; w < 10; w++) {
            Check.due("ladder(" + w + ", " + w + ", 0)", x.ladder(w, w, 0), 0);
            Check.due("ladder(" + w + ", " + w + ", 1)", x.ladder(w, w, 1), w);
        }
    }

    private static void promise19None() {
        Check.promise(19, "NONE: there is none");
        LetterTray x = Games.told(V + "w0a;w0bb;w0cc;w0aa;");
        Check.due("ladder(0, 1, 0)", x.ladder(0, 1, 0), Check.NONE);
        Check.due("ladder(0, 1, 1)", x.ladder(0, 1, 1), Check.NONE);
        Check.due("ladder(2, 3, 0)", x.ladder(2, 3, 0), Check.NONE);
        Check.due("ladder(3, 0, 0)", x.ladder(3, 0, 0), 1);
    }

    private static void steps(String one, String other, int due) {
        LetterTray x = Games.told(V + "w0" + one + ";w0" + other + ";");
        Check.due("steps from " + one + " to " + other, x.ladder(0, 1, 0), due);
        Check.due("steps from " + other + " to " + one, x.ladder(1, 0, 0), due);
    }

    private static void promise19Steps() {
        Check.promise(19, "A STEP: one LETTER is changed");
        steps("a", "h", 1);
        steps("abcdef", "hbcdef", 1);
        steps("abcdef", "abcdeh", 1);
        steps("abcdef", "habcde", Check.NONE);
        steps("ab", "cd", Check.NONE);
        Check.promise(19, "A STEP: put in anywhere, or left out");
        steps("bcdef", "abcdef", 1);
        steps("abcde", "abcdef", 1);
        steps("abdef", "abcdef", 1);
        steps("a", "aa", 1);
        steps("a", "bc", Check.NONE);
        steps("abc", "cdba", Check.NONE);
        steps("a", "abc", Check.NONE);
        steps("abcd", "abcdef", Check.NONE);
        Check.promise(19, "A STEP: or they are KIN");
        steps("ab", "ba", 1);
        steps("abcdef", "fedcba", 1);
        steps("aabb", "bbaa", 1);
        steps("aabb", "bbab", Check.NONE);
        steps("ggh", "hgg", 1);
        steps("ggh", "hhg", Check.NONE);
    }

    private static void promise19Next() {
        Check.promise(19, "the next WORD of such a one (the least)");
        LetterTray x = Games.told(V + "w0ab;w0cd;w0ad;w0cb;");
        Check.due("two ways: the least", x.ladder(0, 1, 1), 2);
        Check.due("two ways, back: the least", x.ladder(1, 0, 1), 2);
        x = Games.told(V + "w0cb;w0ad;w0ab;w0cd;");
        Check.due("two ways: word 0", x.ladder(2, 3, 1), 0);
        Check.due("one step: the last", x.ladder(2, 0, 1), 0);
        Check.due("one step", x.ladder(0, 3, 1), 3);
        x = Games.told(V + "w0cb;w0ab;w0cd;");
        Check.due("by word 0 alone", x.ladder(1, 2, 0), 2);
        Check.due("by word 0 alone", x.ladder(1, 2, 1), 0);
        x = Games.told(V + "w0ab;w0cd;w0aaaa;w0aaab;w0aabb;w0abbb;w0bbbb;w0hhhhhh;w0ghhhhh;w0cb;");
        Check.due("by word 9 alone", x.ladder(0, 1, 0), 2);
        Check.due("by word 9 alone", x.ladder(0, 1, 1), 9);
        Check.promise(19, "the fewest STEPS: not by one that is less, but farther");
        x = Games.told(V + "w0ac;w0aa;w0bb;w0ab;");
        Check.due("ladder(1, 2, 0)", x.ladder(1, 2, 0), 2);
        Check.due("ladder(1, 2, 1)", x.ladder(1, 2, 1), 3);
    }

    private static void promise19Longest() {
        Check.promise(19, "how many STEPS: nine, over all ten WORDS");
        LetterTray x = Games.told(V + CHAIN);
        for (int w = 0; w < 10; w++) {
            for (int u = 0; u < 10; u++) {
                Check.due("ladder(" + w + ", " + u + ", 0)", x.ladder(w, u, 0), Math.abs(w - u));
                int next = w + Integer.compare(u, w);
                Check.due("ladder(" + w + ", " + u + ", 1)", x.ladder(w, u, 1), next);
            }
        }
    }

    private static void promise20Unknown() {
        Check.promise(20, "FAR: UNKNOWN");
        for (int w : new int[] {-1, 10, LEAST, GREATEST}) {
            Whole.refused("far(" + w + ", 0)", Check.UNKNOWN, RICH, y -> y.far(w, 0));
            Whole.refused("far(" + w + ", 10), UNKNOWN first", Check.UNKNOWN, RICH, y -> y.far(w, 10));
            Whole.refused("far(" + w + ", -1), UNKNOWN first", Check.UNKNOWN, RICH, y -> y.far(w, -1));
        }
        Check.due("far(9, 0) of ten", RICH.get().far(9, 0), 512);
        Check.due("far(1, 0) of one", Games.told(V + "w0a;").far(1, 0), Check.UNKNOWN);
    }

    private static void promise20Outside() {
        Check.promise(20, "n 0 .. 9: OUTSIDE");
        for (int n : new int[] {-1, 10, LEAST, GREATEST}) {
            Whole.refused("far(0, " + n + ")", Check.OUTSIDE, RICH, y -> y.far(0, n));
            Whole.refused("far(9, " + n + ")", Check.OUTSIDE, RICH, y -> y.far(9, n));
        }
    }

    private static void promise20Bounds() {
        Check.promise(20, "WORDS (a SET) to which there is a LADDER of n STEPS or fewer");
        LetterTray x = Games.told(V + CHAIN);
        for (int n = 0; n <= 9; n++) {
            Check.due("far(0, " + n + ")", x.far(0, n), (2 << n) - 1);
            Check.due("far(9, " + n + ")", x.far(9, n), 1023 & ~((1 << (9 - n)) - 1));
        }
        x = Games.told(V + "w0a;w0bb;");
        Check.due("far(0, 0): itself", x.far(0, 0), 1);
        Check.due("far(0, 9): not that to which there is none", x.far(0, 9), 1);
        Check.due("far(1, 9)", x.far(1, 9), 2);
    }

    private static void promise21Unknown() {
        Check.promise(21, "a WORD that is said, another one (or it) that was thought of: UNKNOWN");
        for (int w : new int[] {-1, 10, LEAST, GREATEST}) {
            Whole.refused("right(" + w + ", 0, 0)", Check.UNKNOWN, RICH, y -> y.right(w, 0, 0));
            Whole.refused("right(0, " + w + ", 1)", Check.UNKNOWN, RICH, y -> y.right(0, w, 1));
            Whole.refused("right(" + w + ", " + w + ", 0)", Check.UNKNOWN, RICH, y -> y.right(w, w, 0));
            Whole.refused("right(" + w + ", 0, 2), UNKNOWN first", Check.UNKNOWN, RICH, y -> y.right(w, 0, 2));
            Whole.refused("right(0, " + w + ", -1), UNKNOWN first", Check.UNKNOWN, RICH, y -> y.right(0, w, -1));
        }
        Check.due("right(9, 9, 0) of ten", RICH.get().right(9, 9, 0), 6);
        Check.due("right(9, 9, 1) of ten", RICH.get().right(9, 9, 1), 0);
        Check.due("right(0, 1, 0) of one", Games.told(V + "w0a;").right(0, 1, 0), Check.UNKNOWN);
    }

    private static void promise21Outside() {
        Check.promise(21, "RIGHT (what 0), MORE (1): OUTSIDE");
        for (int what : new int[] {-1, 2, LEAST, GREATEST}) {
            Whole.refused("right(0, 9, " + what + ")", Check.OUTSIDE, RICH, y -> y.right(0, 9, what));
            Whole.refused("right(9, 9, " + what + ")", Check.OUTSIDE, RICH, y -> y.right(9, 9, what));
        }
    }

    private static void rights(String said, String thought, int right, int more) {
        LetterTray x = Games.told(V + "w0" + said + ";w0" + thought + ";");
        Check.due("RIGHT of " + said + ", " + thought, x.right(0, 1, 0), right);
        Check.due("MORE of " + said + ", " + thought, x.right(0, 1, 1), more);
        Check.due("RIGHT of " + thought + ", " + said, x.right(1, 0, 0), right);
        Check.due("MORE of " + thought + ", " + said, x.right(1, 0, 1), more);
    }

    private static void promise21Bounds() {
        Check.promise(21, "so many stand RIGHT (at the same place in both), and so many MORE are in it");
        rights("abcdef", "g", 0, 0);
        rights("a", "ab", 1, 0);
        rights("b", "ab", 0, 1);
        rights("abcdef", "abcdeg", 5, 0);
        rights("abcdef", "bcdefa", 0, 6);
        rights("f", "abcdef", 0, 1);
        rights("abcdef", "hhhhhf", 1, 0);
        rights("aaaaaa", "aaaaa", 5, 0);
        rights("aab", "baa", 1, 2);
        rights("aab", "abb", 2, 0);
        rights("hg", "gh", 0, 2);
        rights("ha", "bh", 0, 1);
        rights("hhb", "hah", 1, 1);
        Check.promise(21, "RIGHT, MORE of a WORD, if it was thought of");
        LetterTray x = Games.told(V + "w0aabbcc;");
        Check.due("right(0, 0, 0)", x.right(0, 0, 0), 6);
        Check.due("right(0, 0, 1)", x.right(0, 0, 1), 0);
    }

    private static void promise22Outside() {
        Check.promise(22, "n DRAWS (0 .. 60), each by q of a hundred (0 .. 100): OUTSIDE");
        for (int n : new int[] {-1, 61, LEAST, GREATEST}) {
            Whole.refused("luck(" + n + ", 50)", Check.OUTSIDE, RICH, y -> y.luck(n, 50));
            Whole.refused("luck(" + n + ", 100)", Check.OUTSIDE, RICH, y -> y.luck(n, 100));
        }
        for (int q : new int[] {-1, 101, LEAST, GREATEST}) {
            Whole.refused("luck(5, " + q + ")", Check.OUTSIDE, RICH, y -> y.luck(5, q));
            Whole.refused("luck(0, " + q + ")", Check.OUTSIDE, RICH, y -> y.luck(0, q));
        }
        Check.due("luck(-1, 101)", new LetterTray().luck(-1, 101), Check.OUTSIDE);
    }

    private static void promise22Bounds() {
        Check.promise(22, "LUCK: from no DRAW to 60, from none of a hundred to all");
        LetterTray x = new LetterTray();
        Check.due("luck(0, 0)", x.luck(0, 0), 1000000000);
        Check.due("luck(0, 100)", x.luck(0, 100), 1000000000);
        Check.due("luck(0, 37)", x.luck(0, 37), 1000000000);
        Check.due("luck(1, 0)", x.luck(1, 0), 0);
        Check.due("luck(1, 1)", x.luck(1, 1), 10000000);
        Check.due("luck(1, 99)", x.luck(1, 99), 990000000);
        Check.due("luck(1, 100)", x.luck(1, 100), 1000000000);
        Check.due("luck(60, 0)", x.luck(60, 0), 0);
        Check.due("luck(60, 1)", x.luck(60, 1), 0);
        Check.due("luck(60, 100)", x.luck(60, 100), 1000000000);
        Check.due("luck(59, 100)", x.luck(59, 100), 1000000000);
    }

    private static void promise22Cut() {
        Check.promise(22, "a BILLION times q / 100 each (cut)");
        LetterTray x = new LetterTray();
        Check.due("luck(4, 1)", x.luck(4, 1), 10);
        Check.due("luck(5, 1)", x.luck(5, 1), 0);
        Check.due("luck(5, 3): 24.3", x.luck(5, 3), 24);
        Check.due("luck(6, 3)", x.luck(6, 3), 0);
        Check.due("luck(60, 99)", x.luck(60, 99), 547156620);
        Check.due("luck(60, 50)", x.luck(60, 50), 0);
        Check.due("luck(29, 50)", x.luck(29, 50), 1);
        Check.due("luck(30, 50)", x.luck(30, 50), 0);
    }
}
