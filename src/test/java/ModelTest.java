import java.util.Random;

/** Runs of calls by chance: LetterTray's answers against the model's, at every call. */
public final class ModelTest {
    private static final int RUNS = 400;
    private static final int CALLS = 450;

    private final Random chance;
    private final LetterTray x = new LetterTray();
    private final Model y = new Model();
    private final StringBuilder trail = new StringBuilder();
    private int words = 0;

    private ModelTest(long seed) {
        chance = new Random(seed);
    }

    public static void main(String[] args) {
        for (int run = 0; run < RUNS; run++) {
            new ModelTest(run).run(run);
        }
        Check.close();
    }

    private void run(int run) {
        tell(validText());
        for (int call = 0; call < CALLS; call++) {
            one(run);
            if (chance.nextInt(90) == 0) {
                tell(chance.nextInt(3) == 0 ? validText() : brokenText());
            }
            if (chance.nextInt(4000) == 0) {
                tell(" ".repeat(chance.nextInt(3)));
            }
        }
    }

    private int below(int n) {
        return chance.nextInt(n);
    }

    /** Mostly 0 .. n - 1, now and then out of these. */
    private int near(int n) {
        int far = below(60);
        return far == 0 ? -1 : far == 1 ? n : far == 2 ? Integer.MIN_VALUE : far == 3 ? Integer.MAX_VALUE : below(Math.max(1, n));
    }

    private String some(String of, int least, int most) {
        StringBuilder text = new StringBuilder();
        int n = least + below(most - least + 1);
        for (int i = 0; i < n; i++) {
            text.append(of.charAt(below(of.length())));
        }
        return text.toString();
    }

    private String validText() {
        StringBuilder text = new StringBuilder("v");
        for (int i = 0; i < 8; i++) {
            text.append(i == 0 ? "" : ",").append(1 + below(below(2) == 0 ? 3 : 9));
        }
        text.append(";");
        String alphabet = "abcdefgh".substring(0, 1 + below(8));
        String[] clauses = new String[1 + below(11)];
        java.util.Set<String> known = new java.util.HashSet<>();
        clauses[0] = "b" + some(alphabet + (below(2) == 0 ? "*" : ""), 1, 40) + ";";
        for (int i = 1; i < clauses.length; i++) {
            String spelling = some(alphabet, 1, 1 + below(6));
            clauses[i] = known.add(spelling) ? "w" + below(4) + spelling + ";" : "";
        }
        java.util.Collections.shuffle(java.util.Arrays.asList(clauses), chance);
        for (String clause : clauses) {
            text.append(clause);
        }
        return text.toString();
    }

    /** A text with a sign or two changed, put in or left out; it may still be a game. */
    private String brokenText() {
        StringBuilder text = new StringBuilder(validText());
        for (int i = below(3); i >= 0 && text.length() > 0; i--) {
            int at = below(text.length());
            String sign = some("vbw,;*abhi0123499   Z", 1, 1 + below(3));
            if (below(3) > 0) {
                text.insert(at, sign);
            } else if (below(2) == 0) {
                text.deleteCharAt(at);
            } else {
                text.setLength(at);
            }
        }
        return text.toString();
    }

    private void tell(String text) {
        for (char letter : text.toCharArray()) {
            due("feed", x.feed(letter), y.feed(letter));
        }
        trail.append(" \"").append(text).append('"');
        due("game", x.game(), y.game());
        due("fault", x.fault(), y.fault());
        words = y.told(1);
    }

    private void one(int run) {
        int a = near(words);
        int b = near(words);
        switch (below(33)) {
            case 0: due("feed", x.feed(-1), y.feed(-1)); break;
            case 1: case 2: { int w = near(18); due("told(" + w + ")", x.told(w), y.told(w)); break; }
            case 3: { int l = near(9), w = near(3); due("letters(" + l + ", " + w + ")", x.letters(l, w), y.letters(l, w)); break; }
            case 4: case 5: { int w = near(7); due("word(" + a + ", " + w + ")", x.word(a, w), y.word(a, w)); break; }
            case 6: { int k = near(6); due("spelt(" + a + ", " + k + ")", x.spelt(a, k), y.spelt(a, k)); break; }
            case 7: { int i = near(y.told(5)), w = near(2); due("laid(" + i + ", " + w + ")", x.laid(i, w), y.laid(i, w)); break; }
            case 8: case 9: case 10: due("draw()", x.draw(), y.draw()); break;
            case 11: { int l = near(9); due("give(" + l + ")", x.give(l), y.give(l)); break; }
            case 12: { int l = near(9); due("change(" + l + ")", x.change(l), y.change(l)); break; }
            case 13: case 14: case 15: due("lay(" + a + ")", x.lay(a), y.lay(a)); break;
            case 16: { int i = near(y.told(5)); due("take(" + i + ")", x.take(i), y.take(i)); break; }
            case 17: { int n = near(21); due("drift(" + n + ")", x.drift(n), y.drift(n)); break; }
            case 18: { int n = near(1 + below(32)); due("undo(" + n + ")", x.undo(n), y.undo(n)); break; }
            case 19: { int l = near(8); due("needs(" + a + ", " + l + ")", x.needs(a, l), y.needs(a, l)); break; }
            case 20: { int k = near(5); due("first(" + k + ")", x.first(k), y.first(k)); break; }
            case 21: { int w = near(2); due("ladder(" + a + ", " + b + ", " + w + ")", x.ladder(a, b, w), y.ladder(a, b, w)); break; }
            case 22: { int n = near(10); due("far(" + a + ", " + n + ")", x.far(a, n), y.far(a, n)); break; }
            case 23: { int w = near(2); due("right(" + a + ", " + b + ", " + w + ")", x.right(a, b, w), y.right(a, b, w)); break; }
            case 24: { int n = near(61), q = near(101); due("luck(" + n + ", " + q + ")", x.luck(n, q), y.luck(n, q)); break; }
            case 25: say(a, b); break;
            case 26: due("couldBe()", x.couldBe(), y.couldBe()); break;
            case 27: due("ask()", x.ask(), y.ask()); break;
            case 28: { int p = near(8); int w = below(3) == 0 ? -1 : a; due("write(" + p + ", " + w + ")", x.write(p, w), y.write(p, w)); break; }
            case 29: due("judge()", x.judge(), y.judge()); break;
            case 30: if (below(4) == 0) due("tear()", x.tear(), y.tear()); break;
            case 31: { int v = near(Integer.MAX_VALUE); due("seed(" + v + ")", x.seed(v), y.seed(v)); break; }
            default: image(); break;
        }
        tables(run);
    }

    private void say(int a, int b) {
        int right = y.right(a, b, 0);
        int more = y.right(a, b, 1);
        if (right < 0 || below(4) == 0) {
            right = near(7);
            more = near(7);
        }
        due("say(" + a + ", " + right + ", " + more + ")", x.say(a, right, more), y.say(a, right, more));
    }

    private void image() {
        int i = near(2);
        if (below(2) == 0) {
            due("keep(" + i + ")", x.keep(i), y.keep(i));
        } else {
            due("goBack(" + i + ")", x.goBack(i), y.goBack(i));
        }
    }

    /** All of the state that the face shows, so that a refusal or a telling that changes something is seen at once. */
    private void tables(int run) {
        for (int what = 2; what <= 7; what++) {
            due("run " + run + " told(" + what + ")", x.told(what), y.told(what));
        }
        for (int what = 15; what <= 17; what++) {
            due("run " + run + " told(" + what + ")", x.told(what), y.told(what));
        }
        for (int letter = 0; letter <= 8; letter++) {
            due("run " + run + " tray of " + letter, x.letters(letter, 1), y.letters(letter, 1));
        }
        due("run " + run + " judge()", x.judge(), y.judge());
    }

    private void due(String call, int got, int want) {
        if (got != want) {
            System.out.println("behind" + trail);
        }
        Check.due(call, got, want);
    }
}
