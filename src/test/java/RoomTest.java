import com.sun.management.ThreadMXBean;
import java.lang.management.ManagementFactory;

/** The room that a run takes (LANGUAGE.md, rule 12): a new object is small, and no call makes another one. */
public final class RoomTest {
    private static final ThreadMXBean THREADS = (ThreadMXBean) ManagementFactory.getThreadMXBean();
    private static final int TRIES = 5;
    private static final char[] TEXT = Games.TEN.toCharArray();
    private static final char[] FAULTY = (Check.VALUES + "baa;x").toCharArray();

    /** What the calls answer is added up, so that none is left out as of no use. */
    private static long answers = 0;

    public static void main(String[] args) {
        Check.due("bytes of a new object are below 100000", leastOfNew() < 100000 ? 1 : 0, 1);
        // A call that made but one object, in each of these rounds, would come to more.
        long least = leastOfCalls();
        Check.due("bytes made by the calls (" + least + ") are below 4000", least < 4000 ? 1 : 0, 1);
        Check.due("the calls answered", answers != 0 ? 1 : 0, 1);
        Check.close();
    }

    private static long leastOfNew() {
        long least = Long.MAX_VALUE;
        for (int i = 0; i < TRIES; i++) {
            long before = THREADS.getCurrentThreadAllocatedBytes();
            answers += new LetterTray().told(13);
            least = Math.min(least, THREADS.getCurrentThreadAllocatedBytes() - before);
        }
        return least;
    }

    /** The machine itself makes a few objects when code is run for the first time: the least of some tries has none. */
    private static long leastOfCalls() {
        long least = Long.MAX_VALUE;
        for (int i = 0; i < TRIES; i++) {
            LetterTray x = new LetterTray();
            long before = THREADS.getCurrentThreadAllocatedBytes();
            for (int round = 0; round < 300; round++) {
                callAll(x, round);
            }
            least = Math.min(least, THREADS.getCurrentThreadAllocatedBytes() - before);
        }
        return least;
    }

    private static void callAll(LetterTray x, int round) {
        tellGame(x, TEXT);
        answers += x.seed(round) + x.draw() + x.draw() + x.draw() + x.draw() + x.draw() + x.draw() + x.draw();
        for (int letter = 0; letter <= 8; letter++) {
            answers += x.give(letter) + x.draw() + x.change(letter) + x.letters(letter, 1);
        }
        answers += x.keep(round % 2) + x.drift(20) + x.undo(3);
        for (int w = 0; w < 10; w++) {
            answers += x.lay(w) + x.laid(0, 1) + x.spelt(w, 1) + x.needs(w, 1) + x.take(0);
            answers += x.ladder(w, 9 - w, 0) + x.ladder(w, 9 - w, 1) + x.far(w, 2) + x.right(w, 3, 1);
            answers += x.say(w, 1, 1) + x.write(w, w);
        }
        for (int what = 0; what <= 17; what++) {
            answers += x.told(what) + x.word(5, what) + x.first(what);
        }
        answers += x.couldBe() + x.ask() + x.judge() + x.tear() + x.luck(60, 99) + x.goBack(round % 2);
        tellGame(x, FAULTY);
    }

    private static void tellGame(LetterTray x, char[] text) {
        for (char letter : text) {
            answers += x.feed(letter);
        }
        answers += x.game() + x.fault();
    }
}
