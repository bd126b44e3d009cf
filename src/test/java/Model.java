import java.util.ArrayDeque;
import java.util.ArrayList;
import java.util.Arrays;
import java.util.HashMap;
import java.util.List;
import java.util.Map;

/** The document once more, as plainly as can be and with the whole library, to hold LetterTray's answers against. */
final class Model {
    private static final int NONE = -1, UNKNOWN = -1000000001, OUTSIDE = -1000000002, NOT = -1000000003, FULL = -1000000004;

    /** Section 2. */
    private static final class State {
        final int[] bag = new int[9];
        final int[] tray = new int[9];
        final List<int[]> table = new ArrayList<>();
        int score;
        int turns;

        State copy() {
            State copy = new State();
            System.arraycopy(bag, 0, copy.bag, 0, 9);
            System.arraycopy(tray, 0, copy.tray, 0, 9);
            copy.table.addAll(table);
            copy.score = score;
            copy.turns = turns;
            return copy;
        }
    }

    private String text = "";
    private int faultAt = NONE;
    private boolean isGame = false;
    private int[] values = new int[9];
    private List<String> words = new ArrayList<>();
    private List<Integer> kinds = new ArrayList<>();
    private State now = new State();
    private final ArrayList<State> past = new ArrayList<>();
    private final State[] images = new State[2];
    private final long[] imageSeeds = new long[2];
    private final List<int[]> said = new ArrayList<>();
    private final List<int[]> book = new ArrayList<>();
    private long seed = 0;

    // ---- the game

    int feed(int letter) {
        if (letter < 0 || letter > 255) return OUTSIDE;
        if (text.length() == 240) return FULL;
        text += (char) letter;
        return text.length();
    }

    private int skip(String t, int i) {
        while (i < t.length() && t.charAt(i) == ' ') i++;
        return i;
    }

    /** A row of number and place of the fault; null if there is none. */
    private int[] parse(String t, int[] v, int[] bag, List<String> ws, List<Integer> ks) {
        // what is due: 0 a clause, 1 a value, 2 a sign behind a value, 3 a sort of the bag, 4 a kind, 5 a letter of a word
        int state = 0, n = 0, bags = 0, tellings = 0;
        String w = "";
        int i = skip(t, 0);
        while (i < t.length()) {
            char c = t.charAt(i);
            int sort = "abcdefgh*".indexOf(c);
            if (state == 1 || state == 4) {
                String figures = "";
                while (i + figures.length() < t.length() && Character.digit(t.charAt(i + figures.length()), 10) >= 0
                        && t.charAt(i + figures.length()) < 128) figures += t.charAt(i + figures.length());
                if (figures.isEmpty()) return new int[] {1, i};
                int low = state == 1 ? 1 : 0, high = state == 1 ? 9 : 3;
                if (figures.length() > 3 || Integer.parseInt(figures) < low || Integer.parseInt(figures) > high) return new int[] {2, i};
                if (state == 1) {
                    v[n++] = Integer.parseInt(figures);
                    state = 2;
                } else {
                    ks.add(Integer.parseInt(figures));
                    state = 5;
                }
                i = skip(t, i + figures.length());
                continue;
            }
            if (state == 0) {
                if (tellings == 0 && c != 'v') return new int[] {1, i};
                if (c != 'v' && c != 'b' && c != 'w') return new int[] {1, i};
                if (c == 'v' && tellings > 0 || c == 'b' && bags > 0 || c == 'w' && ws.size() == 10) return new int[] {3, i};
                tellings++;
                if (c == 'b') bags++;
                state = c == 'v' ? 1 : c == 'b' ? 3 : 4;
                n = 0;
                w = "";
            } else if (state == 2) {
                if (c != (n == 8 ? ';' : ',')) return new int[] {1, i};
                state = n == 8 ? 0 : 1;
            } else if (state == 3) {
                if (sort < 0 && (c != ';' || n == 0)) return new int[] {1, i};
                if (sort >= 0 && n == 40) return new int[] {2, i};
                if (c == ';') {
                    state = 0;
                } else {
                    bag[sort]++;
                    n++;
                }
            } else {
                if ((sort < 0 || sort == 8) && (c != ';' || w.isEmpty())) return new int[] {1, i};
                if (c != ';' && w.length() == 6) return new int[] {2, i};
                if (c == ';' && ws.contains(w)) return new int[] {4, i};
                if (c == ';') {
                    ws.add(w);
                    state = 0;
                } else {
                    w += c;
                }
            }
            i = skip(t, i + 1);
        }
        return state == 0 ? null : new int[] {1, t.length()};
    }

    int game() {
        int[] v = new int[9];
        State fresh = new State();
        List<String> ws = new ArrayList<>();
        List<Integer> ks = new ArrayList<>();
        int[] fault = parse(text, v, fresh.bag, ws, ks);
        boolean told = !text.trim().isEmpty();
        text = "";
        faultAt = fault == null ? NONE : fault[1];
        if (fault != null) return -10 - fault[0];
        isGame = told;
        values = v;
        words = ws;
        kinds = ks;
        now = fresh;
        past.clear();
        images[0] = null;
        images[1] = null;
        said.clear();
        book.clear();
        return words.size();
    }

    int fault() {
        return faultAt;
    }

    int told(int what) {
        if (what < 0 || what > 17) return OUTSIDE;
        Object[] best = what >= 10 && what <= 12 ? bestRow() : null;
        switch (what) {
            case 0: return isGame ? 1 : 0;
            case 1: return words.size();
            case 2: return text.length();
            case 3: return Arrays.stream(now.bag).sum();
            case 4: return Arrays.stream(now.tray).sum();
            case 5: return now.table.size();
            case 6: return now.score;
            case 7: return now.turns;
            case 8: {
                int set = 0;
                for (int w = 0; w < words.size(); w++) if (can(w, now.tray)) set += 1 << w;
                return set;
            }
            case 9: {
                int b = NONE;
                for (int w = 0; w < words.size(); w++) if (can(w, now.tray) && (b == NONE || worth(w) > worth(b))) b = w;
                return b;
            }
            case 10: return (Integer) best[0];
            case 11: return (Integer) best[1];
            case 12: return ((List<?>) best[2]).size();
            case 13: {
                int set = 0;
                for (int l = 0; l < 8; l++) if (String.join("", words).indexOf('a' + l) < 0) set += 1 << l;
                return set;
            }
            case 14: {
                int most = 0;
                for (int w = 0; w < words.size(); w++) for (int d : distances(w)) most = Math.max(most, d);
                return most;
            }
            case 15: return said.size();
            case 16: return book.size();
            default: return past.size();
        }
    }

    int letters(int letter, int what) {
        if (letter < 0 || letter > 8 || what < 0 || what > 2) return OUTSIDE;
        return what == 0 ? now.bag[letter] : what == 1 ? now.tray[letter] : values[letter];
    }

    private boolean known(int w) {
        return w >= 0 && w < words.size();
    }

    int word(int w, int what) {
        if (!known(w)) return UNKNOWN;
        if (what < 0 || what > 6) return OUTSIDE;
        int set = 0;
        switch (what) {
            case 0: return kinds.get(w);
            case 1: return words.get(w).length();
            case 2: return worth(w);
            case 3: return missing(words.get(w), now.tray);
            case 4:
                for (int u = 0; u < words.size(); u++) if (sorted(words.get(u)).equals(sorted(words.get(w)))) set += 1 << u;
                return set;
            case 5:
                for (int u = 0; u < words.size(); u++) if (u != w && liesIn(words.get(u), words.get(w))) set += 1 << u;
                return set;
            default: return odds(w);
        }
    }

    int spelt(int w, int k) {
        if (!known(w)) return UNKNOWN;
        if (k < 0 || k > 5) return OUTSIDE;
        return k < words.get(w).length() ? words.get(w).charAt(k) - 'a' : NONE;
    }

    int laid(int i, int what) {
        if (i < 0 || i >= now.table.size()) return UNKNOWN;
        return what < 0 || what > 1 ? OUTSIDE : now.table.get(i)[what];
    }

    // ---- deeds

    private int drawOf(int n) {
        seed = (seed * 1103515245L + 12345L) % (1L << 31);
        return (int) (seed / 65536 % n);
    }

    private int pick(int[] counts) {
        List<Integer> all = new ArrayList<>();
        for (int s = 0; s < 9; s++) for (int i = 0; i < counts[s]; i++) all.add(s);
        return all.get(drawOf(all.size()));
    }

    private void record() {
        past.add(now.copy());
        if (past.size() > 30) past.remove(0);
    }

    private int drawFault() {
        if (told(3) == 0) return NOT;
        return told(4) == 12 ? FULL : 0;
    }

    private int doDraw() {
        int s = pick(now.bag);
        now.bag[s]--;
        now.tray[s]++;
        now.turns++;
        return s;
    }

    int draw() {
        if (drawFault() != 0) return drawFault();
        record();
        return doDraw();
    }

    private void doGive(int s) {
        now.tray[s]--;
        now.bag[s]++;
        now.turns++;
    }

    int give(int s) {
        if (s < 0 || s > 8) return OUTSIDE;
        if (now.tray[s] == 0) return NOT;
        record();
        doGive(s);
        return told(4);
    }

    int change(int s) {
        if (s < 0 || s > 8) return OUTSIDE;
        if (now.tray[s] == 0) return NOT;
        record();
        doGive(s);
        int drawn = doDraw();
        now.turns--;
        return drawn;
    }

    private int layFault(int w) {
        if (!known(w)) return UNKNOWN;
        if (!can(w, now.tray)) return NOT;
        return now.table.size() == 8 ? FULL : 0;
    }

    private void doLay(int w) {
        int blanks = 0;
        for (int k = 0; k < words.get(w).length(); k++) {
            int l = words.get(w).charAt(k) - 'a';
            if (now.tray[l] > 0) {
                now.tray[l]--;
            } else {
                now.tray[8]--;
                blanks += 1 << k;
            }
        }
        now.table.add(new int[] {w, blanks});
        now.score += worth(w);
        now.turns++;
    }

    int lay(int w) {
        if (layFault(w) != 0) return layFault(w);
        record();
        doLay(w);
        return now.score;
    }

    private int takeFault(int i) {
        if (i < 0 || i >= now.table.size()) return UNKNOWN;
        return told(4) + words.get(now.table.get(i)[0]).length() > 12 ? FULL : 0;
    }

    private void doTake(int i) {
        int[] one = now.table.remove(i);
        for (int k = 0; k < words.get(one[0]).length(); k++) {
            now.tray[(one[1] & 1 << k) != 0 ? 8 : words.get(one[0]).charAt(k) - 'a']++;
        }
        now.score -= worth(one[0]);
        now.turns++;
    }

    int take(int i) {
        if (takeFault(i) != 0) return takeFault(i);
        record();
        doTake(i);
        return now.score;
    }

    int drift(int n) {
        if (n < 1 || n > 20) return OUTSIDE;
        if (!isGame) return NOT;
        for (int i = 0; i < n; i++) {
            record();
            int die = drawOf(6);
            if (die < 3 && drawFault() == 0) doDraw();
            if (die == 3 && told(4) > 0) doGive(pick(now.tray));
            if (die == 4 && !words.isEmpty()) {
                int w = drawOf(words.size());
                if (layFault(w) == 0) doLay(w);
            }
            if (die == 5 && !now.table.isEmpty()) {
                int at = drawOf(now.table.size());
                if (takeFault(at) == 0) doTake(at);
            }
        }
        return now.score;
    }

    int undo(int n) {
        if (n < 1 || n > 30) return OUTSIDE;
        if (n > past.size()) return NOT;
        for (int i = 0; i < n; i++) now = past.remove(past.size() - 1);
        return now.score;
    }

    // ---- tried

    private static String sorted(String s) {
        char[] c = s.toCharArray();
        Arrays.sort(c);
        return new String(c);
    }

    private static boolean liesIn(String part, String whole) {
        StringBuilder left = new StringBuilder(whole);
        for (char c : part.toCharArray()) {
            int at = left.indexOf("" + c);
            if (at < 0) return false;
            left.deleteCharAt(at);
        }
        return true;
    }

    private static int missing(String letters, int[] tray) {
        int[] left = tray.clone();
        int missing = 0;
        for (char c : letters.toCharArray()) if (left[c - 'a']-- <= 0) missing++;
        return missing;
    }

    private boolean can(int w, int[] tray) {
        return missing(words.get(w), tray) <= tray[8];
    }

    private int worth(int w) {
        String s = words.get(w);
        int sum = 0;
        for (char c : s.toCharArray()) sum += values[c - 'a'];
        switch (kinds.get(w)) {
            case 1: return sum + sum;
            case 2: return s.length() < 4 ? sum + 5 : sum;
            case 3: return new StringBuilder(s).reverse().toString().equals(s) ? sum + sum + sum : sum;
            default: return sum;
        }
    }

    private int odds(int w) {
        if (can(w, now.tray)) return 1000;
        int all = told(3), fit = 0;
        if (all == 0) return 0;
        for (int s = 0; s < 9; s++) {
            int[] tray = now.tray.clone();
            tray[s]++;
            if (can(w, tray)) fit += now.bag[s];
        }
        return 1000 * fit / all;
    }

    int needs(int w, int letter) {
        if (!known(w)) return UNKNOWN;
        if (letter < 0 || letter > 7) return OUTSIDE;
        return (int) words.get(w).chars().filter(c -> c == 'a' + letter).count();
    }

    /** ALL, MOST, and the first of the best rows. */
    private Object[] bestRow() {
        Object[] best = {0, -1, null};
        rows(0, "", 0, new ArrayList<>(), best);
        return best;
    }

    /** All rows in rising order that begin with this one, each before those that go on from it. */
    private void rows(int from, String letters, int worth, List<Integer> row, Object[] best) {
        if (letters.length() == told(4)) best[0] = (Integer) best[0] + 1;
        if (worth > (Integer) best[1] || worth == (Integer) best[1] && row.size() < ((List<?>) best[2]).size()) {
            best[1] = worth;
            best[2] = new ArrayList<>(row);
        }
        for (int w = from; w < words.size(); w++) {
            String more = letters + words.get(w);
            if (missing(more, now.tray) <= now.tray[8]) {
                row.add(w);
                rows(w, more, worth + worth(w), row, best);
                row.remove(row.size() - 1);
            }
        }
    }

    int first(int k) {
        List<?> row = (List<?>) bestRow()[2];
        return k >= 0 && k < row.size() ? (Integer) row.get(k) : NONE;
    }

    private boolean step(String a, String b) {
        if (sorted(a).equals(sorted(b))) return true;
        for (int k = 0; k <= a.length(); k++) {
            for (char c = 'a'; c <= 'h'; c++) {
                if ((a.substring(0, k) + c + a.substring(k)).equals(b)) return true;
                if (k < a.length() && (a.substring(0, k) + c + a.substring(k + 1)).equals(b)) return true;
            }
            if (k < a.length() && (a.substring(0, k) + a.substring(k + 1)).equals(b)) return true;
        }
        return false;
    }

    private int[] distances(int w) {
        int[] d = new int[words.size()];
        Arrays.fill(d, NONE);
        d[w] = 0;
        ArrayDeque<Integer> queue = new ArrayDeque<>();
        queue.add(w);
        while (!queue.isEmpty()) {
            int v = queue.remove();
            for (int u = 0; u < d.length; u++) {
                if (d[u] == NONE && step(words.get(v), words.get(u))) {
                    d[u] = d[v] + 1;
                    queue.add(u);
                }
            }
        }
        return d;
    }

    int ladder(int w, int u, int what) {
        if (!known(w) || !known(u)) return UNKNOWN;
        if (what < 0 || what > 1) return OUTSIDE;
        int[] back = distances(u);
        if (what == 0 || back[w] == NONE) return back[w];
        if (w == u) return w;
        for (int v = 0; ; v++) if (back[v] == back[w] - 1 && step(words.get(w), words.get(v))) return v;
    }

    int far(int w, int n) {
        if (!known(w)) return UNKNOWN;
        if (n < 0 || n > 9) return OUTSIDE;
        int set = 0;
        int[] d = distances(w);
        for (int u = 0; u < d.length; u++) if (d[u] != NONE && d[u] <= n) set += 1 << u;
        return set;
    }

    int right(int w, int u, int what) {
        if (!known(w) || !known(u)) return UNKNOWN;
        if (what < 0 || what > 1) return OUTSIDE;
        String a = words.get(w), b = words.get(u);
        int right = 0, both = 0;
        for (int k = 0; k < a.length() && k < b.length(); k++) if (a.charAt(k) == b.charAt(k)) right++;
        for (char c : a.toCharArray()) {
            int at = b.indexOf(c);
            if (at >= 0) {
                both++;
                b = b.substring(0, at) + b.substring(at + 1);
            }
        }
        return what == 0 ? right : both - right;
    }

    int luck(int n, int q) {
        if (n < 0 || n > 60 || q < 0 || q > 100) return OUTSIDE;
        long luck = 1000000000;
        while (n-- > 0) luck = luck * q / 100;
        return (int) luck;
    }

    // ---- what is said

    int say(int w, int right, int more) {
        if (!known(w)) return UNKNOWN;
        if (right < 0 || right > 6 || more < 0 || more > 6) return OUTSIDE;
        if (said.size() == 6) return FULL;
        said.add(new int[] {w, right, more});
        return said.size();
    }

    int couldBe() {
        int set = 0;
        for (int w = 0; w < words.size(); w++) {
            boolean fits = true;
            for (int[] s : said) fits &= right(s[0], w, 0) == s[1] && right(s[0], w, 1) == s[2];
            if (fits) set += 1 << w;
        }
        return set;
    }

    int ask() {
        int set = couldBe(), best = NONE, least = Integer.bitCount(set);
        for (int w = 0; w < words.size(); w++) {
            Map<String, Integer> parts = new HashMap<>();
            for (int u = 0; u < words.size(); u++) {
                if ((set & 1 << u) != 0) parts.merge(right(w, u, 0) + "," + right(w, u, 1), 1, Integer::sum);
            }
            int greatest = parts.values().stream().mapToInt(Integer::intValue).max().orElse(0);
            if (greatest < least) {
                least = greatest;
                best = w;
            }
        }
        return best;
    }

    int write(int place, int w) {
        if (w != NONE && !known(w)) return UNKNOWN;
        if (place < 0 || place > 7) return OUTSIDE;
        if (book.size() == 20) return FULL;
        book.add(new int[] {place, w});
        return book.size();
    }

    int judge() {
        for (int i = 0; i < book.size(); i++) {
            int place = book.get(i)[0];
            int lies = place < now.table.size() ? now.table.get(place)[0] : NONE;
            if (lies != book.get(i)[1]) return i;
        }
        return NONE;
    }

    int tear() {
        int had = said.size() + book.size();
        said.clear();
        book.clear();
        return had;
    }

    // ---- images

    int seed(int v) {
        if (v < 0) return OUTSIDE;
        int was = (int) seed;
        seed = v;
        return was;
    }

    int keep(int i) {
        if (i < 0 || i > 1) return UNKNOWN;
        images[i] = now.copy();
        imageSeeds[i] = seed;
        past.clear();
        return 1;
    }

    int goBack(int i) {
        if (i < 0 || i > 1) return UNKNOWN;
        if (images[i] == null) return NOT;
        now = images[i].copy();
        seed = imageSeeds[i];
        past.clear();
        return 1;
    }
}
