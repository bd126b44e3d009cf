/** Promises 17 to 22: what is tried, and changes nothing. */
public final class TriedTest {
    public static void main(String[] args) {
        promise17();
        promise18();
        promise18Order();
        promise18Blanks();
        promise18Many();
        promise19();
        promise19Steps();
        promise20();
        promise21();
        promise22();
        Check.close();
    }

    private static void promise17() {
        LetterTray x = Check.game(Check.VALUES + "w0abacba;w0h;", 2);
        int[] due = {3, 2, 1, 0, 0, 0, 0, 0};
        for (int letter = 0; letter < 8; letter++) {
            Check.due("needs(0, letter)", x.needs(0, letter), due[letter]);
        }
        Check.due("needs(1, 7)", x.needs(1, 7), 1);
        Check.due("needs(0, 8)", x.needs(0, 8), Check.OUTSIDE);
        Check.due("needs(0, -1)", x.needs(0, -1), Check.OUTSIDE);
        Check.due("needs(2, 8)", x.needs(2, 8), Check.UNKNOWN);
        Check.due("needs(-1, 0)", x.needs(-1, 0), Check.UNKNOWN);
    }

    private static void row(LetterTray x, int all, int most, int... row) {
        Check.due("ALL", x.told(10), all);
        Check.due("MOST", x.told(11), most);
        Check.due("MANY", x.told(12), row.length);
        for (int k = 0; k < row.length; k++) {
            Check.due("first(" + k + ")", x.first(k), row[k]);
        }
        Check.due("first behind the last", x.first(row.length), Check.NONE);
        Check.due("first(-1)", x.first(-1), Check.NONE);
        Check.due("first of the greatest", x.first(Integer.MAX_VALUE), Check.NONE);
        Check.due("first of the least", x.first(Integer.MIN_VALUE), Check.NONE);
    }

    private static void promise18() {
        row(Check.tray("", "w0a;", 1), 1, 0);
        row(Check.tray("abc", "", 0), 0, 0);
        row(Check.tray("abc", "w0d;", 1), 0, 0);
        row(Check.tray("aabb", "w0ab;w0a;w0b;", 3), 3, 8, 0, 0);
        row(Check.tray("aabbab", "w0ab;w0ba;w2aab;w1b;", 4), 6, 22, 2, 3, 3);
        LetterTray x = Check.tray("aabbab", "w0ab;w0ba;w2aab;w1b;", 4);
        x.lay(2);
        row(x, 2, 12, 3, 3);
        x.undo(1);
        row(x, 6, 22, 2, 3, 3);
    }

    /** Of rows with the same worth: fewest words, then the least words in rising order. */
    private static void promise18Order() {
        row(Check.tray("abcd", "w0d;w0c;w0ab;w0cd;w0abcd;", 5), 3, 10, 4);
        row(Check.tray("abcd", "w0d;w0abc;w0ab;w0cd;", 4), 2, 10, 0, 1);
        row(Check.tray("abcd", "w0ab;w0cd;w0abc;w0d;", 4), 2, 10, 0, 1);
        row(Check.tray("abcd", "w0cd;w0abc;w0d;w0ab;", 4), 2, 10, 0, 3);
    }

    private static void promise18Blanks() {
        row(Check.tray("*", "w0a;w0g;w1b;", 3), 3, 6, 1);
        row(Check.tray("a**", "w0ab;w0b;w0bb;", 3), 1, 7, 0, 1);
        row(Check.tray("************", "w0gggggg;w3g;", 2), 3, 216, 1, 1, 1, 1, 1, 1, 1, 1, 1, 1, 1, 1);
        row(Check.tray("************", "w0gg;w0gggg;w0ggg;w0ggggg;", 4), 10, 72, 0, 3, 3);
    }

    private static void promise18Many() {
        LetterTray x = Check.tray("************", "w0a;w0b;w0c;w0d;w0e;w0f;w0g;w0h;w0aa;w0bb;", 10);
        Check.due("ALL of twelve blanks", x.told(10), 117326);
        x = Check.tray("aabbccdefgh*", "w0a;w0b;w0c;w0d;w0e;w0f;w0g;w0h;w0gh;w0ggg;", 10);
        Check.due("MOST of many rests", x.told(11), 36);
        Check.due("ALL of many rests", x.told(10), 8 + 8);
    }

    private static void promise19() {
        LetterTray x = Check.game(Check.VALUES + "w0abc;w0abd;w0abde;w0fbde;w0h;w0edba;w0acd;", 7);
        Check.due("ladder(0, 0, 0)", x.ladder(0, 0, 0), 0);
        Check.due("ladder(0, 0, 1)", x.ladder(0, 0, 1), 0);
        Check.due("ladder(0, 1, 0)", x.ladder(0, 1, 0), 1);
        Check.due("ladder(0, 1, 1)", x.ladder(0, 1, 1), 1);
        Check.due("ladder(0, 3, 0)", x.ladder(0, 3, 0), 3);
        Check.due("ladder(0, 3, 1)", x.ladder(0, 3, 1), 1);
        Check.due("ladder(3, 0, 1)", x.ladder(3, 0, 1), 2);
        Check.due("ladder(5, 0, 0)", x.ladder(5, 0, 0), 3);
        Check.due("ladder(5, 0, 1)", x.ladder(5, 0, 1), 2);
        Check.due("ladder(0, 4, 0)", x.ladder(0, 4, 0), Check.NONE);
        Check.due("ladder(0, 4, 1)", x.ladder(0, 4, 1), Check.NONE);
        Check.due("FARTHEST", x.told(14), 3);
        Check.due("ladder(0, 7, 2)", x.ladder(0, 7, 2), Check.UNKNOWN);
        Check.due("ladder(-1, 0, 0)", x.ladder(-1, 0, 0), Check.UNKNOWN);
        Check.due("ladder(0, 1, 2)", x.ladder(0, 1, 2), Check.OUTSIDE);
        Check.due("ladder(0, 1, -1)", x.ladder(0, 1, -1), Check.OUTSIDE);
    }

    private static void steps(String from, String to, int due) {
        LetterTray x = Check.game(Check.VALUES + "w0" + from + ";w0" + to + ";", 2);
        Check.due("steps from " + from + " to " + to, x.ladder(0, 1, 0), due);
        Check.due("steps from " + to + " to " + from, x.ladder(1, 0, 0), due);
    }

    private static void promise19Steps() {
        steps("a", "b", 1);
        steps("ab", "bc", Check.NONE);
        steps("ab", "ba", 1);
        steps("abcdef", "fedcba", 1);
        steps("abc", "bc", 1);
        steps("abc", "ac", 1);
        steps("abc", "ab", 1);
        steps("abc", "ba", Check.NONE);
        steps("aab", "ab", 1);
        steps("abab", "aba", 1);
        steps("abcd", "ab", Check.NONE);
        steps("abcd", "abdc", 1);
        steps("abcd", "abee", Check.NONE);
        steps("aab", "abb", 1);
        steps("aabc", "abbc", 1);
        steps("aabc", "cbba", Check.NONE);
        LetterTray x = Check.game(Check.VALUES + "w0ab;w0cd;w0cb;w0ad;", 4);
        Check.due("two ways round: the least", x.ladder(0, 1, 1), 2);
        x = Check.game(Check.VALUES + "w0a;w0aa;w0aaa;w0aaaa;w0aaaaa;w0aaaaaa;w0aaaaab;w0aaaabb;w0aaabbb;w0aabbbb;", 10);
        Check.due("the farthest of ten", x.ladder(0, 9, 0), 8);
        Check.due("FARTHEST", x.told(14), 8);
    }

    private static void promise20() {
        LetterTray x = Check.game(Check.VALUES + "w0abc;w0abd;w0abde;w0fbde;w0h;w0edba;w0acd;", 7);
        int[] due = {1, 3, 71, 111, 111, 111, 111, 111, 111, 111};
        for (int n = 0; n <= 9; n++) {
            Check.due("far(0, " + n + ")", x.far(0, n), due[n]);
        }
        Check.due("far(4, 9)", x.far(4, 9), 16);
        Check.due("far(0, 10)", x.far(0, 10), Check.OUTSIDE);
        Check.due("far(0, -1)", x.far(0, -1), Check.OUTSIDE);
        Check.due("far(7, 10)", x.far(7, 10), Check.UNKNOWN);
        Check.due("far(-1, 0)", x.far(-1, 0), Check.UNKNOWN);
    }

    private static void right(String said, String thought, int right, int more) {
        LetterTray x = Check.game(Check.VALUES + "w0" + said + ";w0" + thought + ";", 2);
        Check.due("right of " + said + ", " + thought, x.right(0, 1, 0), right);
        Check.due("more of " + said + ", " + thought, x.right(0, 1, 1), more);
        Check.due("right of " + thought + ", " + said, x.right(1, 0, 0), right);
        Check.due("more of " + thought + ", " + said, x.right(1, 0, 1), more);
        Check.due("right of it", x.right(0, 0, 0), said.length());
        Check.due("more of it", x.right(0, 0, 1), 0);
    }

    private static void promise21() {
        right("a", "b", 0, 0);
        right("ab", "ba", 0, 2);
        right("aab", "aba", 1, 2);
        right("aaaaaa", "a", 1, 0);
        right("baaaaa", "ab", 0, 2);
        right("abcdef", "fedcba", 0, 6);
        right("abcabc", "abcaab", 4, 1);
        LetterTray x = Check.game(Check.VALUES + "w0a;w0b;", 2);
        Check.due("right(0, 2, 5)", x.right(0, 2, 5), Check.UNKNOWN);
        Check.due("right(-1, 0, 0)", x.right(-1, 0, 0), Check.UNKNOWN);
        Check.due("right(0, 1, 2)", x.right(0, 1, 2), Check.OUTSIDE);
        Check.due("right(0, 1, -1)", x.right(0, 1, -1), Check.OUTSIDE);
    }

    private static void promise22() {
        LetterTray x = new LetterTray();
        Check.due("luck(0, 0)", x.luck(0, 0), 1000000000);
        Check.due("luck(0, 100)", x.luck(0, 100), 1000000000);
        Check.due("luck(60, 100)", x.luck(60, 100), 1000000000);
        Check.due("luck(1, 0)", x.luck(1, 0), 0);
        Check.due("luck(3, 50)", x.luck(3, 50), 125000000);
        Check.due("luck(6, 3)", x.luck(6, 3), 0);
        Check.due("luck(5, 3)", x.luck(5, 3), 24);
        Check.due("luck(60, 99)", x.luck(60, 99), 547156620);
        Check.due("luck(61, 50)", x.luck(61, 50), Check.OUTSIDE);
        Check.due("luck(-1, 50)", x.luck(-1, 50), Check.OUTSIDE);
        Check.due("luck(5, 101)", x.luck(5, 101), Check.OUTSIDE);
        Check.due("luck(5, -1)", x.luck(5, -1), Check.OUTSIDE);
    }
}
