import java.util.ArrayList;
import java.util.List;
import java.util.function.Consumer;
import java.util.function.Supplier;
import java.util.function.ToIntFunction;

/**
 * All that can be seen of an object, also what comes to light by later calls alone: deeds undone one by one, images gone
 * back to, the text when it is read, the seed. Each part asks an object made anew, so that none is asked more than its
 * 512 calls.
 */
final class Whole {
    private static final List<Consumer<Whole>> PARTS = List.of(Whole::now, Whole::words, Whole::needs, Whole::ladders,
            Whole::rights, Whole::text, Whole::undoneCounts, Whole::undoneTray, Whole::undoneBag, Whole::undoneTable,
            Whole::undoneBlanks, Whole::firstImage, Whole::secondImage, Whole::book);

    private final LetterTray x;
    private final List<Integer> seen = new ArrayList<>();

    private Whole(LetterTray x) {
        this.x = x;
    }

    /** A call that is refused: what it answers, and that all else is as if it had not been called. */
    static void refused(String call, int want, Supplier<LetterTray> make, ToIntFunction<LetterTray> deed) {
        Check.due(call, deed.applyAsInt(make.get()), want);
        unchanged(call, make, deed);
    }

    /** A call by which nothing changes, whatever it answers. */
    static void unchanged(String call, Supplier<LetterTray> make, ToIntFunction<LetterTray> deed) {
        Supplier<LetterTray> behind = () -> {
            LetterTray x = make.get();
            deed.applyAsInt(x);
            return x;
        };
        alike(call + " changes nothing", behind, make);
        Check.due("fault() behind " + call, behind.get().fault(), make.get().fault());
    }

    /** Two ways to come to the same; fault() is left to those that ask, as it tells of the way. */
    static void alike(String label, Supplier<LetterTray> one, Supplier<LetterTray> other) {
        for (int part = 0; part < PARTS.size(); part++) {
            List<Integer> got = see(one, part);
            List<Integer> want = see(other, part);
            Check.due(label + ": answers of part " + part, got.size(), want.size());
            int at = 0;
            while (at < got.size() && at < want.size() && got.get(at).equals(want.get(at))) {
                at++;
            }
            if (at < got.size() && at < want.size()) {
                Check.due(label + ": answer " + at + " of part " + part, got.get(at), want.get(at));
            }
        }
    }

    private static List<Integer> see(Supplier<LetterTray> make, int part) {
        Whole whole = new Whole(make.get());
        PARTS.get(part).accept(whole);
        return whole.seen;
    }

    private void counts(int from, int to) {
        for (int what = from; what <= to; what++) {
            seen.add(x.told(what));
        }
    }

    private void letters(int what) {
        for (int letter = 0; letter <= 8; letter++) {
            seen.add(x.letters(letter, what));
        }
    }

    private void table(int what) {
        for (int i = 0; i < 8; i++) {
            seen.add(x.laid(i, what));
        }
    }

    private void now() {
        counts(0, 17);
        letters(0);
        letters(1);
        letters(2);
        table(0);
        table(1);
        for (int k = 0; k <= 12; k++) {
            seen.add(x.first(k));
        }
        seen.add(x.couldBe());
        seen.add(x.ask());
        seen.add(x.judge());
        seen.add(x.seed(0));
    }

    private void words() {
        for (int w = 0; w < 10; w++) {
            for (int what = 0; what <= 6; what++) {
                seen.add(x.word(w, what));
            }
            for (int k = 0; k <= 5; k++) {
                seen.add(x.spelt(w, k));
            }
        }
    }

    private void needs() {
        for (int w = 0; w < 10; w++) {
            for (int letter = 0; letter <= 7; letter++) {
                seen.add(x.needs(w, letter));
            }
            for (int n = 0; n <= 9; n++) {
                seen.add(x.far(w, n));
            }
        }
    }

    private void ladders() {
        for (int w = 0; w < 10; w++) {
            for (int u = 0; u < 10; u++) {
                seen.add(x.ladder(w, u, 0));
                seen.add(x.ladder(w, u, 1));
            }
        }
    }

    private void rights() {
        for (int w = 0; w < 10; w++) {
            for (int u = 0; u < 10; u++) {
                seen.add(x.right(w, u, 0));
                seen.add(x.right(w, u, 1));
            }
        }
    }

    /** What has been fed is told by the game that it becomes. */
    private void text() {
        seen.add(x.game());
        seen.add(x.fault());
        letters(0);
        letters(2);
        words();
    }

    private void undone(Runnable ask) {
        for (int i = 0; i <= 30; i++) {
            seen.add(x.undo(1));
            ask.run();
            if (x.told(17) == 0) {
                return;
            }
        }
    }

    private void undoneCounts() {
        undone(() -> counts(3, 7));
    }

    private void undoneTray() {
        undone(() -> letters(1));
    }

    private void undoneBag() {
        undone(() -> letters(0));
    }

    private void undoneTable() {
        undone(() -> table(0));
    }

    private void undoneBlanks() {
        undone(() -> table(1));
    }

    private void firstImage() {
        seen.add(x.goBack(0));
        now();
    }

    private void secondImage() {
        seen.add(x.goBack(1));
        now();
    }

    /** What the book says of each place shows as words come and go there. */
    private void book() {
        seen.add(x.judge());
        for (int i = 0; i < 8; i++) {
            seen.add(x.take(0));
            seen.add(x.judge());
        }
        for (int i = 0; i < 8; i++) {
            seen.add(x.draw());
            for (int w = 9; w >= 0; w--) {
                seen.add(x.lay(w));
                seen.add(x.judge());
            }
        }
    }
}
