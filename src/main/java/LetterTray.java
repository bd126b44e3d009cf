import java.util.Arrays;

/** Letters drawn from a bag, words laid out of a tray, and what can be told of both (see DOC.md). */
public final class LetterTray {
    public static final int NONE = -1, UNKNOWN = -1000000001, OUTSIDE = -1000000002, NOT = -1000000003, FULL = -1000000004;

    /** Stands where a refusal could stand, if nothing is refused. */
    private static final int FINE = 0;
    private static final int LETTERS = 8;
    /** A blank stands behind the letters in every row of counts. */
    private static final int BLANK = 8;
    private static final int SORTS = 9;
    private static final int MOST_TEXT = 240;
    private static final int MOST_WORDS = 10;
    private static final int MOST_SPELT = 6;
    private static final int MOST_BAG = 40;
    private static final int MOST_TRAY = 12;
    private static final int MOST_LAID = 8;
    private static final int MOST_TURNS = 90000;
    private static final int MOST_TIMES = 20;
    private static final int MOST_UNDONE = 30;
    private static final int MOST_SAID = 6;
    private static final int MOST_BOOK = 20;
    private static final int IMAGES = 2;
    private static final int BILLION = 1000000000;

    private final Reader reader;
    private final Desk desk;
    private final History history;
    private final Image[] images;
    private final Rows rows;
    private final Talk talk;
    private Words words;
    /** A text is read into this one, so that a fault in it leaves the game as it was. */
    private Words spare;
    private int chance;
    private int faultAt;

    public LetterTray() {
        reader = new Reader();
        desk = new Desk();
        history = new History();
        images = new Image[IMAGES];
        for (int i = 0; i < IMAGES; i++) {
            images[i] = new Image();
        }
        talk = new Talk();
        words = new Words();
        spare = new Words();
        rows = new Rows(words);
        chance = 0;
        faultAt = NONE;
    }

    // ---- the game

    public int feed(int letter) {
        if (letter < 0 || letter > 255) {
            return OUTSIDE;
        }
        return reader.append(letter) ? reader.length : FULL;
    }

    public int game() {
        int flaw = reader.read(spare);
        faultAt = reader.flawAt;
        reader.length = 0;
        if (flaw != FINE) {
            return -10 - flaw;
        }
        Words read = spare;
        spare = words;
        words = read;
        words.prepare();
        begin();
        return words.count;
    }

    private void begin() {
        desk.clear(words.bag);
        history.clear();
        for (int i = 0; i < IMAGES; i++) {
            images[i].kept = false;
        }
        rows.forget();
        talk.clear();
    }

    public int fault() {
        return faultAt;
    }

    public int told(int what) {
        switch (what) {
            case 0: return words.isGame ? 1 : 0;
            case 1: return words.count;
            case 2: return reader.length;
            case 3: return sum(desk.bag);
            case 4: return sum(desk.tray);
            case 5: return desk.count;
            case 6: return desk.score;
            case 7: return desk.turns;
            case 8: return canSet();
            case 9: return bestWord();
            case 10: return tried().all();
            case 11: return tried().most();
            case 12: return tried().many();
            case 13: return words.unused();
            case 14: return words.farthest();
            case 15: return talk.said;
            case 16: return talk.written;
            case 17: return history.count;
            default: return OUTSIDE;
        }
    }

    public int letters(int letter, int what) {
        if (letter < 0 || letter >= SORTS) {
            return OUTSIDE;
        }
        switch (what) {
            case 0: return desk.bag[letter];
            case 1: return desk.tray[letter];
            case 2: return words.values[letter];
            default: return OUTSIDE;
        }
    }

    public int word(int w, int what) {
        if (!words.has(w)) {
            return UNKNOWN;
        }
        switch (what) {
            case 0: return words.kinds[w];
            case 1: return words.lengths[w];
            case 2: return words.worths[w];
            case 3: return missing(w);
            case 4: return words.kinOf(w);
            case 5: return words.insideOf(w);
            case 6: return odds(w);
            default: return OUTSIDE;
        }
    }

    public int spelt(int w, int k) {
        if (!words.has(w)) {
            return UNKNOWN;
        }
        return k < 0 || k >= MOST_SPELT ? OUTSIDE : words.letterAt(w, k);
    }

    public int laid(int i, int what) {
        if (!desk.hasLaid(i)) {
            return UNKNOWN;
        }
        switch (what) {
            case 0: return desk.laidWords[i];
            case 1: return desk.laidBlanks[i];
            default: return OUTSIDE;
        }
    }

    // ---- deeds

    public int draw() {
        int refusal = drawRefusal();
        if (refusal != FINE) {
            return refusal;
        }
        history.push(desk);
        return drawOne();
    }

    public int give(int letter) {
        int refusal = giveRefusal(letter);
        if (refusal != FINE) {
            return refusal;
        }
        history.push(desk);
        giveOne(letter);
        return sum(desk.tray);
    }

    public int change(int letter) {
        int refusal = giveRefusal(letter);
        if (refusal != FINE) {
            return refusal;
        }
        history.push(desk);
        desk.toBag(letter);
        return drawOne();
    }

    public int lay(int w) {
        int refusal = layRefusal(w);
        if (refusal != FINE) {
            return refusal;
        }
        history.push(desk);
        layOne(w);
        return desk.score;
    }

    public int take(int i) {
        int refusal = takeRefusal(i);
        if (refusal != FINE) {
            return refusal;
        }
        history.push(desk);
        takeOne(i);
        return desk.score;
    }

    public int drift(int n) {
        if (n < 1 || n > MOST_TIMES) {
            return OUTSIDE;
        }
        if (!words.isGame) {
            return NOT;
        }
        if (desk.turns >= MOST_TURNS) {
            return FULL;
        }
        for (int i = 0; i < n; i++) {
            // A time in which nothing can be done is still one that can be undone.
            history.push(desk);
            driftOnce(drawOf(6));
        }
        return desk.score;
    }

    public int undo(int n) {
        if (n < 1 || n > MOST_UNDONE) {
            return OUTSIDE;
        }
        if (n > history.count) {
            return NOT;
        }
        history.pop(n, desk);
        return desk.score;
    }

    private int drawRefusal() {
        if (sum(desk.bag) == 0) {
            return NOT;
        }
        return sum(desk.tray) >= MOST_TRAY || desk.turns >= MOST_TURNS ? FULL : FINE;
    }

    private int giveRefusal(int letter) {
        if (letter < 0 || letter >= SORTS) {
            return OUTSIDE;
        }
        if (desk.tray[letter] == 0) {
            return NOT;
        }
        return desk.turns >= MOST_TURNS ? FULL : FINE;
    }

    private int layRefusal(int w) {
        if (!words.has(w)) {
            return UNKNOWN;
        }
        if (!can(w)) {
            return NOT;
        }
        return desk.count >= MOST_LAID || desk.turns >= MOST_TURNS ? FULL : FINE;
    }

    private int takeRefusal(int i) {
        if (!desk.hasLaid(i)) {
            return UNKNOWN;
        }
        int held = sum(desk.tray) + words.lengthOf(desk.laidWords[i]);
        return held > MOST_TRAY || desk.turns >= MOST_TURNS ? FULL : FINE;
    }

    private int drawOne() {
        int sort = nthSort(desk.bag, drawOf(sum(desk.bag)));
        desk.toTray(sort);
        desk.turns++;
        return sort;
    }

    private void giveOne(int letter) {
        desk.toBag(letter);
        desk.turns++;
    }

    private void layOne(int w) {
        desk.layDown(words, w);
        desk.turns++;
    }

    private void takeOne(int i) {
        desk.takeUp(words, i);
        desk.turns++;
    }

    private void driftOnce(int die) {
        if (die <= 2) {
            if (drawRefusal() == FINE) {
                drawOne();
            }
        } else if (die == 3) {
            driftGive();
        } else if (die == 4) {
            driftLay();
        } else {
            driftTake();
        }
    }

    private void driftGive() {
        int held = sum(desk.tray);
        if (held > 0) {
            int sort = nthSort(desk.tray, drawOf(held));
            if (giveRefusal(sort) == FINE) {
                giveOne(sort);
            }
        }
    }

    private void driftLay() {
        if (words.count > 0) {
            int w = drawOf(words.count);
            if (layRefusal(w) == FINE) {
                layOne(w);
            }
        }
    }

    private void driftTake() {
        if (desk.count > 0) {
            int i = drawOf(desk.count);
            if (takeRefusal(i) == FINE) {
                takeOne(i);
            }
        }
    }

    private int drawOf(int n) {
        long next = chance * 1103515245L + 12345L;
        chance = (int) (next & 0x7fffffffL);
        return n < 1 ? 0 : chance / 65536 % n;
    }

    // ---- tried

    public int needs(int w, int letter) {
        if (!words.has(w)) {
            return UNKNOWN;
        }
        return letter < 0 || letter >= LETTERS ? OUTSIDE : words.needOf(w, letter);
    }

    public int first(int k) {
        return tried().kth(k);
    }

    public int ladder(int w, int u, int what) {
        if (!words.has(w) || !words.has(u)) {
            return UNKNOWN;
        }
        switch (what) {
            case 0: return words.stepsTo(w, u);
            case 1: return words.nextTo(w, u);
            default: return OUTSIDE;
        }
    }

    public int far(int w, int n) {
        if (!words.has(w)) {
            return UNKNOWN;
        }
        return n < 0 || n > 9 ? OUTSIDE : words.farSet(w, n);
    }

    public int right(int said, int thought, int what) {
        if (!words.has(said) || !words.has(thought)) {
            return UNKNOWN;
        }
        switch (what) {
            case 0: return words.rightOf(said, thought);
            case 1: return words.moreOf(said, thought);
            default: return OUTSIDE;
        }
    }

    public int luck(int n, int q) {
        if (n < 0 || n > 60 || q < 0 || q > 100) {
            return OUTSIDE;
        }
        long odds = BILLION;
        for (int i = 0; i < n; i++) {
            odds = odds * q / 100;
        }
        return (int) odds;
    }

    private int missing(int w) {
        int missing = 0;
        for (int letter = 0; letter < LETTERS; letter++) {
            missing += Math.max(0, words.needOf(w, letter) - desk.tray[letter]);
        }
        return missing;
    }

    private boolean can(int w) {
        return missing(w) <= desk.tray[BLANK];
    }

    private int canSet() {
        int set = 0;
        for (int w = 0; w < words.count; w++) {
            if (can(w)) {
                set |= 1 << w;
            }
        }
        return set;
    }

    private int bestWord() {
        int best = NONE;
        int most = 0;
        for (int w = 0; w < words.count; w++) {
            if (words.worths[w] > most && can(w)) {
                best = w;
                most = words.worths[w];
            }
        }
        return best;
    }

    private int odds(int w) {
        if (can(w)) {
            return 1000;
        }
        int all = sum(desk.bag);
        // One letter more never makes up for two that are missing.
        if (all < 1 || missing(w) - desk.tray[BLANK] > 1) {
            return 0;
        }
        int fit = desk.bag[BLANK];
        for (int letter = 0; letter < LETTERS; letter++) {
            if (words.needOf(w, letter) > desk.tray[letter]) {
                fit += desk.bag[letter];
            }
        }
        return 1000 * fit / all;
    }

    private Rows tried() {
        rows.tryOut(words, desk.tray);
        return rows;
    }

    // ---- what is said

    public int say(int w, int right, int more) {
        if (!words.has(w)) {
            return UNKNOWN;
        }
        if (right < 0 || right > MOST_SPELT || more < 0 || more > MOST_SPELT) {
            return OUTSIDE;
        }
        return talk.addSaid(w, right, more) ? talk.said : FULL;
    }

    public int couldBe() {
        return talk.fitting(words);
    }

    public int ask() {
        return talk.bestToAsk(words);
    }

    public int write(int place, int w) {
        if (w != NONE && !words.has(w)) {
            return UNKNOWN;
        }
        if (place < 0 || place >= MOST_LAID) {
            return OUTSIDE;
        }
        return talk.addEntry(place, w) ? talk.written : FULL;
    }

    public int judge() {
        return talk.firstWrong(desk);
    }

    public int tear() {
        int had = talk.said + talk.written;
        talk.clear();
        return had;
    }

    // ---- images

    public int seed(int v) {
        if (v < 0) {
            return OUTSIDE;
        }
        int was = chance;
        chance = v;
        return was;
    }

    public int keep(int i) {
        if (i < 0 || i >= IMAGES) {
            return UNKNOWN;
        }
        Image image = images[i];
        image.kept = true;
        image.chance = chance;
        image.desk.become(desk);
        history.clear();
        return 1;
    }

    public int goBack(int i) {
        if (i < 0 || i >= IMAGES) {
            return UNKNOWN;
        }
        Image image = images[i];
        if (!image.kept) {
            return NOT;
        }
        chance = image.chance;
        desk.become(image.desk);
        history.clear();
        return 1;
    }

    // ---- rows of counts

    private static int sum(int[] counts) {
        int sum = 0;
        for (int count : counts) {
            sum += count;
        }
        return sum;
    }

    /** Which sort the n-th one is, counted through from a on. */
    private static int nthSort(int[] counts, int n) {
        int left = n;
        for (int sort = 0; sort < counts.length; sort++) {
            if (left < counts[sort]) {
                return sort;
            }
            left -= counts[sort];
        }
        return NONE;
    }

    /** The text as it is fed, and the one who reads it up to its first fault. */
    private static final class Reader {
        private static final int MISPLACED = 1;
        private static final int UNBOUNDED = 2;
        private static final int AGAIN = 3;
        private static final int TWIN = 4;

        private final char[] text = new char[MOST_TEXT];
        private int length = 0;
        private int at = 0;
        private int flaw = FINE;
        private int flawAt = NONE;

        private boolean append(int letter) {
            if (length >= MOST_TEXT) {
                return false;
            }
            text[length] = (char) letter;
            length++;
            return true;
        }

        /** FINE, or the number of the fault. */
        private int read(Words into) {
            into.clear();
            at = 0;
            flaw = FINE;
            flawAt = NONE;
            skipSpaces();
            for (int clause = 0; clause < MOST_TEXT && at < length && flaw == FINE; clause++) {
                readClause(into);
                skipSpaces();
            }
            return flaw;
        }

        private void readClause(Words into) {
            if (stands('v')) {
                startClause(into.isGame);
                readValues(into);
            } else if (stands('b') && into.isGame) {
                startClause(into.hasBag);
                readBag(into);
            } else if (stands('w') && into.isGame) {
                startClause(into.count >= MOST_WORDS);
                readWord(into);
            } else {
                fail(MISPLACED, at);
            }
        }

        private void startClause(boolean again) {
            if (again) {
                fail(AGAIN, at);
            }
            at++;
        }

        private void readValues(Words into) {
            into.isGame = true;
            for (int i = 0; i < LETTERS && flaw == FINE; i++) {
                into.values[i] = readNumber(1, 9);
                skipSpaces();
                pass(i < LETTERS - 1 ? ',' : ';');
            }
        }

        private void readBag(Words into) {
            into.hasBag = true;
            for (int count = 0; count <= MOST_BAG && flaw == FINE; count++) {
                skipSpaces();
                int sort = sortHere();
                if (sort == NONE) {
                    endLetters(count);
                    return;
                }
                if (count == MOST_BAG) {
                    fail(UNBOUNDED, at);
                }
                into.bag[sort]++;
                at++;
            }
        }

        private void readWord(Words into) {
            int kind = readNumber(0, 3);
            for (int count = 0; count <= MOST_SPELT && flaw == FINE; count++) {
                skipSpaces();
                int sort = sortHere();
                if (sort == NONE || sort == BLANK) {
                    endWord(into, kind, count);
                    return;
                }
                if (count == MOST_SPELT) {
                    fail(UNBOUNDED, at);
                } else {
                    into.spell(count, sort);
                }
                at++;
            }
        }

        private void endWord(Words into, int kind, int count) {
            int end = at;
            endLetters(count);
            if (flaw == FINE && !into.add(kind, count)) {
                fail(TWIN, end);
            }
        }

        private void endLetters(int count) {
            if (count == 0 || !stands(';')) {
                fail(MISPLACED, at);
            }
            at++;
        }

        private int readNumber(int least, int most) {
            skipSpaces();
            int start = at;
            int value = 0;
            while (at < length && text[at] >= '0' && text[at] <= '9') {
                // Kept low, so that no row of figures comes round to a small number.
                value = Math.min(1000, value * 10 + text[at] - '0');
                at++;
            }
            if (at == start) {
                fail(MISPLACED, at);
            } else if (at - start > 3 || value < least || value > most) {
                fail(UNBOUNDED, start);
            }
            return value;
        }

        private void pass(char sign) {
            if (!stands(sign)) {
                fail(MISPLACED, at);
            }
            at++;
        }

        private boolean stands(char sign) {
            return at < length && text[at] == sign;
        }

        private void skipSpaces() {
            while (at < length && text[at] == ' ') {
                at++;
            }
        }

        private int sortHere() {
            if (at >= length) {
                return NONE;
            }
            char sign = text[at];
            if (sign == '*') {
                return BLANK;
            }
            return sign >= 'a' && sign <= 'h' ? sign - 'a' : NONE;
        }

        private void fail(int number, int place) {
            if (flaw == FINE) {
                flaw = number;
                flawAt = place;
            }
        }
    }

    /** What a text tells, and all that follows from its words alone. */
    private static final class Words {
        /** More steps than any ladder has. */
        private static final int APART = 99;

        private final int[] values = new int[SORTS];
        private final int[] bag = new int[SORTS];
        private final int[] kinds = new int[MOST_WORDS];
        private final int[] lengths = new int[MOST_WORDS];
        private final int[] worths = new int[MOST_WORDS];
        private final int[] spelling = new int[MOST_WORDS * MOST_SPELT];
        private final int[] needed = new int[MOST_WORDS * LETTERS];
        private final int[] steps = new int[MOST_WORDS * MOST_WORDS];
        private final int[] rights = new int[MOST_WORDS * MOST_WORDS];
        private final int[] mores = new int[MOST_WORDS * MOST_WORDS];
        private boolean isGame = false;
        private boolean hasBag = false;
        private int count = 0;

        private void clear() {
            Arrays.fill(values, 0);
            Arrays.fill(bag, 0);
            isGame = false;
            hasBag = false;
            count = 0;
        }

        private boolean has(int w) {
            return w >= 0 && w < count;
        }

        /** A letter of the word that is being read. */
        private void spell(int k, int letter) {
            if (count < MOST_WORDS && k >= 0 && k < MOST_SPELT) {
                spelling[count * MOST_SPELT + k] = letter;
            }
        }

        /** The word that was being read is one more, unless another one is spelt alike. */
        private boolean add(int kind, int length) {
            if (count >= MOST_WORDS) {
                return false;
            }
            kinds[count] = kind;
            lengths[count] = length;
            for (int w = 0; w < count; w++) {
                if (lengths[w] == length && samePlaces(w, count) == length) {
                    return false;
                }
            }
            count++;
            return true;
        }

        private int lengthOf(int w) {
            return has(w) ? lengths[w] : 0;
        }

        private int letterAt(int w, int k) {
            return w >= 0 && w < count && k >= 0 && k < lengths[w] ? spelling[w * MOST_SPELT + k] : NONE;
        }

        private int needOf(int w, int letter) {
            return w >= 0 && w < count && letter >= 0 && letter < LETTERS ? needed[w * LETTERS + letter] : 0;
        }

        private void prepare() {
            for (int w = 0; w < count; w++) {
                countNeeds(w);
                worths[w] = worthOf(w);
            }
            for (int w = 0; w < count; w++) {
                for (int u = 0; u < count; u++) {
                    int pair = w * MOST_WORDS + u;
                    rights[pair] = samePlaces(w, u);
                    mores[pair] = inBoth(w, u) - rights[pair];
                    steps[pair] = w == u ? 0 : isStep(w, u) ? 1 : APART;
                }
            }
            joinSteps();
        }

        private void countNeeds(int w) {
            for (int letter = 0; letter < LETTERS; letter++) {
                int times = 0;
                for (int k = 0; k < lengths[w]; k++) {
                    if (letterAt(w, k) == letter) {
                        times++;
                    }
                }
                needed[w * LETTERS + letter] = times;
            }
        }

        private int worthOf(int w) {
            int sum = 0;
            for (int letter = 0; letter < LETTERS; letter++) {
                sum += needOf(w, letter) * values[letter];
            }
            switch (kinds[w]) {
                case 1: return 2 * sum;
                case 2: return lengths[w] <= 3 ? sum + 5 : sum;
                case 3: return isMirror(w) ? 3 * sum : sum;
                default: return sum;
            }
        }

        private boolean isMirror(int w) {
            int last = lengths[w] - 1;
            for (int k = 0; k < last - k; k++) {
                if (letterAt(w, k) != letterAt(w, last - k)) {
                    return false;
                }
            }
            return true;
        }

        private int samePlaces(int w, int u) {
            int same = 0;
            for (int k = 0; k < lengths[w] && k < lengths[u]; k++) {
                if (spelling[w * MOST_SPELT + k] == spelling[u * MOST_SPELT + k]) {
                    same++;
                }
            }
            return same;
        }

        private int inBoth(int w, int u) {
            int both = 0;
            for (int letter = 0; letter < LETTERS; letter++) {
                both += Math.min(needOf(w, letter), needOf(u, letter));
            }
            return both;
        }

        private boolean areKin(int w, int u) {
            return lengths[w] == lengths[u] && inBoth(w, u) == lengths[w];
        }

        private boolean isStep(int w, int u) {
            if (lengths[w] == lengths[u]) {
                return samePlaces(w, u) == lengths[w] - 1 || areKin(w, u);
            }
            return isLonger(w, u) || isLonger(u, w);
        }

        /** Whether one letter left out of the first word makes the second. */
        private boolean isLonger(int w, int u) {
            if (lengths[w] != lengths[u] + 1) {
                return false;
            }
            int left = 0;
            for (int k = 0; k < lengths[u]; k++) {
                if (left == 0 && letterAt(w, k) != letterAt(u, k)) {
                    left = 1;
                }
                if (letterAt(w, k + left) != letterAt(u, k)) {
                    return false;
                }
            }
            return true;
        }

        private void joinSteps() {
            for (int by = 0; by < count; by++) {
                for (int w = 0; w < count; w++) {
                    for (int u = 0; u < count; u++) {
                        int round = steps[w * MOST_WORDS + by] + steps[by * MOST_WORDS + u];
                        int pair = w * MOST_WORDS + u;
                        steps[pair] = Math.min(steps[pair], round);
                    }
                }
            }
        }

        private int kinOf(int w) {
            int set = 0;
            for (int u = 0; u < count; u++) {
                if (has(w) && areKin(w, u)) {
                    set |= 1 << u;
                }
            }
            return set;
        }

        private int insideOf(int w) {
            int set = 0;
            for (int u = 0; u < count; u++) {
                if (u != w && inBoth(w, u) == lengths[u]) {
                    set |= 1 << u;
                }
            }
            return set;
        }

        private int unused() {
            int set = (1 << LETTERS) - 1;
            for (int w = 0; w < count; w++) {
                for (int letter = 0; letter < LETTERS; letter++) {
                    if (needOf(w, letter) > 0) {
                        set &= ~(1 << letter);
                    }
                }
            }
            return set;
        }

        private int rightOf(int w, int u) {
            return has(w) && has(u) ? rights[w * MOST_WORDS + u] : 0;
        }

        private int moreOf(int w, int u) {
            return has(w) && has(u) ? mores[w * MOST_WORDS + u] : 0;
        }

        private int stepsTo(int w, int u) {
            if (!has(w) || !has(u)) {
                return NONE;
            }
            int far = steps[w * MOST_WORDS + u];
            return far < APART ? far : NONE;
        }

        private int nextTo(int w, int u) {
            int far = stepsTo(w, u);
            if (far <= 0) {
                return far == 0 ? w : NONE;
            }
            for (int next = 0; next < count; next++) {
                if (stepsTo(w, next) == 1 && stepsTo(next, u) == far - 1) {
                    return next;
                }
            }
            return NONE;
        }

        private int farSet(int w, int n) {
            int set = 0;
            for (int u = 0; u < count; u++) {
                int far = stepsTo(w, u);
                if (far != NONE && far <= n) {
                    set |= 1 << u;
                }
            }
            return set;
        }

        private int farthest() {
            int most = 0;
            for (int w = 0; w < count; w++) {
                for (int u = 0; u < count; u++) {
                    most = Math.max(most, stepsTo(w, u));
                }
            }
            return most;
        }
    }

    /** The bag, the tray and the table: all that deeds change and images keep, but the seed. */
    private static final class Desk {
        private final int[] bag = new int[SORTS];
        private final int[] tray = new int[SORTS];
        private final int[] laidWords = new int[MOST_LAID];
        private final int[] laidBlanks = new int[MOST_LAID];
        private int count = 0;
        private int score = 0;
        private int turns = 0;

        private void clear(int[] fullBag) {
            System.arraycopy(fullBag, 0, bag, 0, SORTS);
            Arrays.fill(tray, 0);
            count = 0;
            score = 0;
            turns = 0;
        }

        private void become(Desk other) {
            System.arraycopy(other.bag, 0, bag, 0, SORTS);
            System.arraycopy(other.tray, 0, tray, 0, SORTS);
            System.arraycopy(other.laidWords, 0, laidWords, 0, MOST_LAID);
            System.arraycopy(other.laidBlanks, 0, laidBlanks, 0, MOST_LAID);
            count = other.count;
            score = other.score;
            turns = other.turns;
        }

        private boolean hasLaid(int i) {
            return i >= 0 && i < count;
        }

        private void toTray(int sort) {
            if (sort >= 0 && sort < SORTS) {
                bag[sort]--;
                tray[sort]++;
            }
        }

        private void toBag(int sort) {
            if (sort >= 0 && sort < SORTS) {
                tray[sort]--;
                bag[sort]++;
            }
        }

        private void layDown(Words words, int w) {
            if (count >= MOST_LAID || !words.has(w)) {
                return;
            }
            int blanks = 0;
            for (int k = 0; k < words.lengthOf(w); k++) {
                int letter = words.letterAt(w, k);
                if (letter != NONE && tray[letter] > 0) {
                    tray[letter]--;
                } else {
                    tray[BLANK]--;
                    blanks |= 1 << k;
                }
            }
            laidWords[count] = w;
            laidBlanks[count] = blanks;
            count++;
            score += words.worths[w];
        }

        private void takeUp(Words words, int i) {
            if (!hasLaid(i) || !words.has(laidWords[i])) {
                return;
            }
            int w = laidWords[i];
            for (int k = 0; k < words.lengthOf(w); k++) {
                boolean isBlank = (laidBlanks[i] >> k & 1) != 0;
                int sort = isBlank ? BLANK : words.letterAt(w, k);
                if (sort != NONE) {
                    tray[sort]++;
                }
            }
            count--;
            for (int next = i; next < count; next++) {
                laidWords[next] = laidWords[next + 1];
                laidBlanks[next] = laidBlanks[next + 1];
            }
            score -= words.worths[w];
        }
    }

    /** The desks ahead of the latest deeds, in a ring, so that the oldest gives way. */
    private static final class History {
        private final Desk[] ring = new Desk[MOST_UNDONE];
        private int next = 0;
        private int count = 0;

        private History() {
            for (int i = 0; i < MOST_UNDONE; i++) {
                ring[i] = new Desk();
            }
        }

        private void clear() {
            count = 0;
        }

        private void push(Desk desk) {
            ring[next].become(desk);
            next = (next + 1) % MOST_UNDONE;
            count = Math.min(MOST_UNDONE, count + 1);
        }

        private void pop(int n, Desk desk) {
            if (n < 1 || n > count) {
                return;
            }
            next = (next + MOST_UNDONE - n) % MOST_UNDONE;
            count -= n;
            desk.become(ring[next]);
        }
    }

    /** A desk with the seed, to go on from. */
    private static final class Image {
        private final Desk desk = new Desk();
        private int chance = 0;
        private boolean kept = false;
    }

    /**
     * Rows of words out of one tray. What is left of the tray is the same in whatever order a row's
     * words are laid, so each such rest (a number: its counts as figures of a mixed base) is looked at once.
     */
    private static final class Rows {
        /** Twelve in nine sorts: no tray has more rests than 2 * 2 * 2 * 2 * 2 * 2 * 3 * 3 * 3. */
        private static final int MOST_RESTS = 1728;
        /** Above the most words of a row: a worth times this, less the words, ranks by both. */
        private static final int RANK = 16;

        private final int[] tray = new int[SORTS];
        private final int[] weight = new int[SORTS];
        /** How many rows leave a rest. */
        private final int[] ways = new int[MOST_RESTS];
        /** The rank of the best row out of a rest. */
        private final int[] best = new int[MOST_RESTS];
        private int rests = 1;
        private boolean fresh = false;
        private Words words;

        private Rows(Words words) {
            this.words = words;
        }

        private void forget() {
            fresh = false;
        }

        private void tryOut(Words ofGame, int[] ofTray) {
            if (fresh && isTray(ofTray)) {
                return;
            }
            words = ofGame;
            System.arraycopy(ofTray, 0, tray, 0, SORTS);
            countRests();
            countWays();
            rankRests();
            fresh = true;
        }

        private boolean isTray(int[] other) {
            for (int sort = 0; sort < SORTS; sort++) {
                if (tray[sort] != other[sort]) {
                    return false;
                }
            }
            return true;
        }

        private void countRests() {
            rests = 1;
            for (int sort = 0; sort < SORTS; sort++) {
                weight[sort] = rests;
                rests = Math.min(MOST_RESTS, rests * (tray[sort] + 1));
            }
        }

        /** Word after word, as one counts the ways to pay a sum by coins: so no row counts twice. */
        private void countWays() {
            Arrays.fill(ways, 0);
            ways[rests - 1] = 1;
            for (int w = 0; w < words.count; w++) {
                for (int rest = rests - 1; rest > 0; rest--) {
                    int next = ways[rest] == 0 ? NONE : after(rest, w);
                    if (next != NONE) {
                        ways[next] += ways[rest];
                    }
                }
            }
        }

        private void rankRests() {
            for (int rest = 0; rest < rests; rest++) {
                best[rest] = 0;
                for (int w = 0; w < words.count && ways[rest] > 0; w++) {
                    best[rest] = Math.max(best[rest], rankWith(rest, w));
                }
            }
        }

        /** The rank of the best row out of a rest that has this word; 0 if none has. */
        private int rankWith(int rest, int w) {
            int next = after(rest, w);
            return next == NONE ? 0 : best[next] + words.worths[w] * RANK - 1;
        }

        /** The rest that is left when a word is laid out of a rest. */
        private int after(int rest, int w) {
            int next = rest;
            int blanks = countIn(rest, BLANK);
            for (int letter = 0; letter < LETTERS && blanks >= 0; letter++) {
                int need = words.needOf(w, letter);
                if (need > 0) {
                    int used = Math.min(need, countIn(rest, letter));
                    next -= used * weight[letter] + (need - used) * weight[BLANK];
                    blanks -= need - used;
                }
            }
            return blanks >= 0 && next >= 0 && next < rest ? next : NONE;
        }

        private int countIn(int rest, int sort) {
            int base = tray[sort] + 1;
            return base < 1 || weight[sort] < 1 ? 0 : rest / weight[sort] % base;
        }

        private int all() {
            return ways[0];
        }

        private int most() {
            return (best[rests - 1] + RANK - 1) / RANK;
        }

        private int many() {
            return most() * RANK - best[rests - 1];
        }

        private int kth(int k) {
            int rest = rests - 1;
            for (int i = 0; i < MOST_TRAY && i <= k; i++) {
                int w = leastOfBest(rest);
                if (w == NONE || i == k) {
                    return w;
                }
                rest = after(rest, w);
            }
            return NONE;
        }

        /** The least word of all best rows out of a rest: what is left by it goes on as well as can be. */
        private int leastOfBest(int rest) {
            if (rest < 0 || rest >= rests || best[rest] == 0) {
                return NONE;
            }
            for (int w = 0; w < words.count; w++) {
                if (rankWith(rest, w) == best[rest]) {
                    return w;
                }
            }
            return NONE;
        }
    }

    /** What was said of the word that somebody thought of, and the book of the table. */
    private static final class Talk {
        private final int[] saidWords = new int[MOST_SAID];
        private final int[] saidRights = new int[MOST_SAID];
        private final int[] saidMores = new int[MOST_SAID];
        private final int[] places = new int[MOST_BOOK];
        private final int[] placeWords = new int[MOST_BOOK];
        private int said = 0;
        private int written = 0;

        private void clear() {
            said = 0;
            written = 0;
        }

        private boolean addSaid(int w, int right, int more) {
            if (said >= MOST_SAID) {
                return false;
            }
            saidWords[said] = w;
            saidRights[said] = right;
            saidMores[said] = more;
            said++;
            return true;
        }

        private boolean addEntry(int place, int w) {
            if (written >= MOST_BOOK) {
                return false;
            }
            places[written] = place;
            placeWords[written] = w;
            written++;
            return true;
        }

        private int fitting(Words words) {
            int set = 0;
            for (int w = 0; w < words.count; w++) {
                if (fits(words, w)) {
                    set |= 1 << w;
                }
            }
            return set;
        }

        private boolean fits(Words words, int thought) {
            for (int i = 0; i < said; i++) {
                if (words.rightOf(saidWords[i], thought) != saidRights[i]
                        || words.moreOf(saidWords[i], thought) != saidMores[i]) {
                    return false;
                }
            }
            return true;
        }

        private int bestToAsk(Words words) {
            int set = fitting(words);
            int best = NONE;
            int least = Integer.bitCount(set);
            for (int w = 0; w < words.count; w++) {
                int part = greatestPart(words, w, set);
                if (part < least) {
                    best = w;
                    least = part;
                }
            }
            return best;
        }

        private int greatestPart(Words words, int asked, int set) {
            int greatest = 0;
            for (int w = 0; w < words.count; w++) {
                if ((set >> w & 1) != 0) {
                    greatest = Math.max(greatest, partWith(words, asked, w, set));
                }
            }
            return greatest;
        }

        private int partWith(Words words, int asked, int w, int set) {
            int part = 0;
            for (int u = 0; u < words.count; u++) {
                if ((set >> u & 1) != 0
                        && words.rightOf(asked, u) == words.rightOf(asked, w)
                        && words.moreOf(asked, u) == words.moreOf(asked, w)) {
                    part++;
                }
            }
            return part;
        }

        private int firstWrong(Desk desk) {
            for (int i = 0; i < written; i++) {
                int lies = desk.hasLaid(places[i]) ? desk.laidWords[places[i]] : NONE;
                if (lies != placeWords[i]) {
                    return i;
                }
            }
            return NONE;
        }
    }
}
