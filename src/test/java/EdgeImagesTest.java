import java.util.function.Supplier;

/** The boundary cases of promises 29 to 31: the seed and the images. */
public final class EdgeImagesTest {
    private static final String V = Check.VALUES;
    private static final int LEAST = Integer.MIN_VALUE;
    private static final int GREATEST = Integer.MAX_VALUE;
    private static final Supplier<LetterTray> RICH = () -> Games.rich("v1,2");

    public static void main(String[] args) {
        promise29Outside();
        promise29Bounds();
        promise29Else();
        promise29ComesRound();
        promise30Unknown();
        promise30Both();
        promise30Undone();
        promise30Empty();
        promise30Again();
        promise31Unknown();
        promise31Not();
        promise31Whole();
        promise31Undone();
        promise31Stays();
        promise31Full();
        promise31Eighth();
        Check.close();
    }

    private static void promise29Outside() {
        Check.promise(29, "THE SEED becomes v (0 .. 2147483647): OUTSIDE");
        for (int v : new int[] {-1, -2, LEAST, LEAST + 1}) {
            Whole.refused("seed(" + v + ")", Check.OUTSIDE, RICH, y -> y.seed(v));
        }
    }

    private static void promise29Bounds() {
        Check.promise(29, "what it was (0 at first)");
        LetterTray x = new LetterTray();
        Check.due("seed(0)", x.seed(0), 0);
        Check.due("seed of the greatest", x.seed(GREATEST), 0);
        Check.due("seed of one less", x.seed(GREATEST - 1), GREATEST);
        Check.due("seed(-1)", x.seed(-1), Check.OUTSIDE);
        Check.due("seed(1)", x.seed(1), GREATEST - 1);
        Check.due("seed(0)", x.seed(0), 1);
        Check.due("seed(0)", x.seed(0), 0);
    }

    private static void promise29Else() {
        Check.promise(29, "THE SEED becomes v: all else is as it was");
        int was = RICH.get().seed(0);
        Whole.alike("seed there and back", () -> {
            LetterTray x = RICH.get();
            x.seed(GREATEST);
            x.seed(was);
            return x;
        }, RICH);
        LetterTray x = RICH.get();
        int could = x.told(17);
        x.seed(3);
        Check.due("nothing to undo in it", x.told(17), could);
    }

    private static void promise29ComesRound() {
        Check.promise(29, "each DRAW it becomes it times 1103515245 and 12345, left over by 2 to the 31");
        LetterTray x = Games.told(V + "ba;");
        int[] starts = {0, 1, GREATEST - 1, GREATEST, 1073741824};
        int[] due = {12345, 1103527590, 2087949151, 1043980748, 1073754169};
        for (int i = 0; i < starts.length; i++) {
            x.seed(starts[i]);
            Check.due("draw()", x.draw(), 0);
            Check.due("the seed from " + starts[i], x.seed(0), due[i]);
            x.give(0);
        }
    }

    private static void promise30Unknown() {
        Check.promise(30, "IMAGE i: UNKNOWN");
        for (int i : new int[] {-1, 2, LEAST, GREATEST}) {
            Whole.refused("keep(" + i + ")", Check.UNKNOWN, RICH, y -> y.keep(i));
            Whole.refused("keep(" + i + ") of a new object", Check.UNKNOWN, LetterTray::new, y -> y.keep(i));
        }
        Check.due("keep(0)", RICH.get().keep(0), 1);
        Check.due("keep(1)", RICH.get().keep(1), 1);
    }

    private static void promise30Both() {
        Check.promise(30, "IMAGES 0, 1: each by itself");
        LetterTray x = Games.drawn(V + "baaaa;", 1);
        x.keep(0);
        Check.due("goBack(1), not kept", x.goBack(1), Check.NOT);
        x.draw();
        x.keep(1);
        x.draw();
        x.goBack(0);
        Check.due("THE TRAY of 0", x.told(4), 1);
        x.goBack(1);
        Check.due("THE TRAY of 1", x.told(4), 2);
        x = Games.drawn(V + "baaaa;", 1);
        x.keep(1);
        Check.due("goBack(0), not kept", x.goBack(0), Check.NOT);
        Check.due("goBack(1)", x.goBack(1), 1);
    }

    private static void promise30Undone() {
        Check.promise(30, "nothing can be undone then");
        LetterTray x = Games.drawn(V + "b" + "a".repeat(13) + ";", 12);
        for (int i = 0; i < 20; i++) {
            x.change(0);
        }
        Check.due("told(17)", x.told(17), 30);
        Check.due("keep(0)", x.keep(0), 1);
        Check.due("told(17)", x.told(17), 0);
        Check.due("undo(1)", x.undo(1), Check.NOT);
        Check.due("undo(30)", x.undo(30), Check.NOT);
        x.give(0);
        Check.due("undo(1)", x.undo(1), 0);
        Check.due("THE TRAY", x.told(4), 12);
        Check.due("undo(1)", x.undo(1), Check.NOT);
        Check.promise(30, "IMAGE i becomes what is so: all else is as it was");
        LetterTray y = RICH.get();
        y.keep(0);
        LetterTray z = RICH.get();
        for (int what = 0; what <= 16; what++) {
            Check.due("told(" + what + ")", y.told(what), z.told(what));
        }
        Check.due("couldBe()", y.couldBe(), z.couldBe());
        Check.due("judge()", y.judge(), z.judge());
        Check.due("fault()", y.fault(), z.fault());
        Check.due("the seed", y.seed(0), z.seed(0));
    }

    private static void promise30Empty() {
        Check.promise(30, "IMAGE i becomes what is so: of a new object, too");
        LetterTray x = new LetterTray();
        Check.due("keep(0)", x.keep(0), 1);
        x.seed(5);
        Check.due("goBack(0)", x.goBack(0), 1);
        Check.due("the seed", x.seed(0), 0);
        Check.due("told(0)", x.told(0), 0);
        Check.promise(30, "IMAGES are gone with the next text, of no GAME, too");
        x.keep(1);
        Check.due("game()", x.game(), 0);
        Check.due("goBack(0)", x.goBack(0), Check.NOT);
        Check.due("goBack(1)", x.goBack(1), Check.NOT);
    }

    private static void promise30Again() {
        Check.promise(30, "IMAGE i becomes what is so: the latest");
        LetterTray x = Games.drawn(V + "baaaa;", 1);
        x.keep(0);
        x.draw();
        x.keep(0);
        x.draw();
        x.goBack(0);
        Check.due("THE TRAY", x.told(4), 2);
        x.draw();
        x.draw();
        x.goBack(0);
        Check.due("THE TRAY, gone back twice", x.told(4), 2);
    }

    private static void promise31Unknown() {
        Check.promise(31, "IMAGE i: UNKNOWN");
        for (int i : new int[] {-1, 2, LEAST, GREATEST}) {
            Whole.refused("goBack(" + i + ")", Check.UNKNOWN, RICH, y -> y.goBack(i));
            Whole.refused("goBack(" + i + "), none kept: UNKNOWN first", Check.UNKNOWN, LetterTray::new, y -> y.goBack(i));
        }
    }

    private static void promise31Not() {
        Check.promise(31, "NOT: it was not kept");
        Supplier<LetterTray> none = () -> Games.drawn(Games.TEN, 7);
        Whole.refused("goBack(0)", Check.NOT, none, y -> y.goBack(0));
        Whole.refused("goBack(1)", Check.NOT, none, y -> y.goBack(1));
        Supplier<LetterTray> first = () -> {
            LetterTray x = Games.drawn(Games.TEN, 7);
            x.keep(0);
            x.draw();
            return x;
        };
        Whole.refused("goBack(1), 0 was kept", Check.NOT, first, y -> y.goBack(1));
        Supplier<LetterTray> gone = () -> {
            LetterTray x = Games.rich(V + "baa;w0a;");
            x.game();
            x.draw();
            return x;
        };
        Whole.refused("goBack(0) behind the next text", Check.NOT, gone, y -> y.goBack(0));
        Whole.refused("goBack(1) behind the next text", Check.NOT, gone, y -> y.goBack(1));
        LetterTray x = Games.rich("x");
        x.game();
        Check.due("goBack(0) behind a fault", x.goBack(0), 1);
        Check.due("goBack(1) behind a fault", x.goBack(1), 1);
    }

    /** Kept, much done, gone back: as when nothing was done. */
    private static void promise31Whole() {
        Check.promise(31, "What is so becomes IMAGE i: all of section 2, THE SEED");
        for (int image = 0; image <= 1; image++) {
            int i = image;
            Whole.alike("goBack(" + i + ")", () -> {
                LetterTray x = Games.rich("");
                x.keep(i);
                x.drift(20);
                x.take(0);
                x.lay(8);
                x.draw();
                x.seed(1);
                x.goBack(i);
                return x;
            }, () -> {
                LetterTray x = Games.rich("");
                x.keep(i);
                return x;
            });
        }
    }

    private static void promise31Undone() {
        Check.promise(31, "nothing can be undone then");
        LetterTray x = Games.drawn(V + "b" + "a".repeat(13) + ";", 5);
        x.keep(1);
        for (int i = 0; i < 30; i++) {
            x.change(0);
        }
        Check.due("told(17)", x.told(17), 30);
        Check.due("goBack(1)", x.goBack(1), 1);
        Check.due("told(17)", x.told(17), 0);
        Check.due("undo(1)", x.undo(1), Check.NOT);
        Check.due("TURNS", x.told(7), 5);
        x.draw();
        Check.due("told(17)", x.told(17), 1);
        Check.due("undo(1)", x.undo(1), 0);
        Check.due("TURNS", x.told(7), 5);
    }

    private static void promise31Stays() {
        Check.promise(31, "What is so becomes IMAGE i: what is SAID, THE BOOK, THE TEXT are no part of it");
        LetterTray x = Games.drawn(Games.TEN, 3);
        x.say(0, 0, 0);
        x.keep(0);
        x.say(0, 0, 1);
        x.write(0, 0);
        x.feed('v');
        x.goBack(0);
        Check.due("told(15)", x.told(15), 2);
        Check.due("told(16)", x.told(16), 1);
        Check.due("told(2)", x.told(2), 1);
        Check.promise(31, "IMAGE i stays: one can go back to it again, and what is done then does not reach it");
        x.draw();
        x.lay(0);
        x.goBack(0);
        Check.due("TURNS", x.told(7), 3);
        Check.due("THE TRAY", x.told(4), 3);
    }

    private static void promise31Full() {
        Check.promise(31, "What is so becomes IMAGE i: a full tray, a full table, an empty bag");
        LetterTray x = Games.laid(Games.drawn(V + "b" + "a".repeat(20) + ";w0a;", 12), 0, 8);
        while (x.draw() >= 0) {
            x.told(4);
        }
        Check.due("THE TRAY", x.told(4), 12);
        Check.due("THE BAG", x.told(3), 0);
        Check.due("LAID", x.told(5), 8);
        x.keep(0);
        x.give(0);
        x.take(7);
        x.take(0);
        Check.due("LAID", x.told(5), 7);
        x.goBack(0);
        Check.due("THE TRAY", x.told(4), 12);
        Check.due("THE BAG", x.told(3), 0);
        Check.due("LAID", x.told(5), 8);
        Check.due("laid(7, 0)", x.laid(7, 0), 0);
        Check.due("SCORE", x.told(6), 8);
        Check.due("draw()", x.draw(), Check.NOT);
        Check.due("take(0)", x.take(0), Check.FULL);
    }

    private static void promise31Eighth() {
        Check.promise(31, "What is so becomes IMAGE i: the eighth that is LAID, its BLANKS, too");
        LetterTray x = Games.laid(Games.tray("aaaaaaaab*", "w0a;w0bb;"), 0, 7);
        x.lay(1);
        x.keep(0);
        x.take(7);
        x.lay(0);
        Check.due("another eighth: laid(7, 0)", x.laid(7, 0), 0);
        Check.due("another eighth: laid(7, 1)", x.laid(7, 1), 0);
        x.keep(1);
        x.goBack(0);
        Check.due("image 0: laid(7, 0)", x.laid(7, 0), 1);
        Check.due("image 0: laid(7, 1)", x.laid(7, 1), 2);
        x.goBack(1);
        Check.due("image 1: laid(7, 0)", x.laid(7, 0), 0);
        Check.due("image 1: laid(7, 1)", x.laid(7, 1), 0);
    }
}
