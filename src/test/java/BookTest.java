/** Promises 25 to 30: the book, the seed, the images. */
public final class BookTest {
    private static final Checks c = new Checks();
    private static final String TEXT = "p2;f0 10 50;f3 20 60;c0 1;t0 5 7 3;r0 1 0;e0 0 5;e1 1 9;";

    public static void main(String[] args) {
        notes();
        judges();
        seeds();
        images();
        imagesApart();
        imageOfMany();
        c.end();
    }

    private static void notes() {
        SevenBlows x = c.land(TEXT);
        for (int i = 1; i <= 15; i++) {
            c.due("note", i, x.note(i % 2, 0, i * 99 / 15));
        }
        c.due("entries", 15, x.told(8));
        String before = Checks.all(x);
        c.due("a sixteenth", Checks.FULL, x.note(0, 0, 0));
        c.due("outside ahead of full", Checks.OUTSIDE, x.note(0, 0, 100));
        c.due("unknown ahead of outside", Checks.UNKNOWN, x.note(2, 0, 100));
        c.holds("refused", before.equals(Checks.all(x)));
        c.due("tear", 15, x.tear());
        c.due("torn", 0, x.told(8));
        c.due("tear again", 0, x.tear());
        c.due("nobody", Checks.UNKNOWN, x.note(-1, 0, 0));
        c.due("of nobody", Checks.UNKNOWN, x.note(0, 2, 0));
        c.due("of -1", Checks.UNKNOWN, x.note(0, -1, 0));
        c.due("below", Checks.OUTSIDE, x.note(0, 0, -1));
        c.due("none of them", 0, x.told(8));
        c.due("0 is right", 1, x.note(0, 0, 0));
        c.due("99 is right", 2, x.note(0, 0, 99));
    }

    private static void judges() {
        SevenBlows x = c.land(TEXT);
        c.due("empty", Checks.NONE, x.judge());
        x.note(0, 0, 5);
        x.note(1, 1, 9);
        x.note(1, 0, 0);
        c.due("all right", Checks.NONE, x.judge());
        x.note(0, 1, 1);
        c.due("the fourth", 3, x.judge());
        x.rumour(0);
        c.due("the third", 2, x.judge());
        x.read(0, 0);
        c.due("the first", 0, x.judge());
        x.inspect(0, 0);
        c.due("still the first", 0, x.judge());
        x.tear();
        c.due("torn", Checks.NONE, x.judge());
        x.note(0, 0, 10);
        c.due("anew", Checks.NONE, x.judge());
    }

    private static void seeds() {
        SevenBlows x = c.land(TEXT);
        c.due("seed", 0, x.seed(2147483647));
        c.due("below", Checks.OUTSIDE, x.seed(-1));
        c.due("far below", Checks.OUTSIDE, x.seed(Integer.MIN_VALUE));
        c.due("it was", 2147483647, x.seed(7));
        c.due("and is", 7, x.seed(0));
        c.due("and was 0", 0, x.seed(2147483647));
        x.drift(6);
        c.due("after 18 draws", 2050135173, x.seed(42));
        x.drift(6);
        c.due("after 18 others", 705377000, x.seed(0));
    }

    private static void images() {
        SevenBlows x = c.land(TEXT);
        x.seed(11);
        x.drift(4);
        x.attempt(0, 0, 1);
        x.belt(0, 33);
        String then = Checks.all(x);
        c.due("keep", 1, x.keep(0));
        x.belt(0, 44);
        x.belt(1, 55);
        x.inspect(1, 1);
        x.attempt(1, 0, 1);
        x.rumour(1);
        x.drift(9);
        x.seed(3);
        c.holds("other than then", !then.equals(Checks.all(x)));
        c.due("go back", 1, x.goBack(0));
        c.holds("as then", then.equals(Checks.all(x)));
        x.drift(9);
        c.due("go back again", 1, x.goBack(0));
        c.holds("as then again", then.equals(Checks.all(x)));
        c.due("not kept", Checks.NOT, x.goBack(1));
        c.due("no image 2", Checks.UNKNOWN, x.goBack(2));
        c.due("no image -1", Checks.UNKNOWN, x.goBack(-1));
        c.due("keep 2", Checks.UNKNOWN, x.keep(2));
        c.due("keep -1", Checks.UNKNOWN, x.keep(-1));
        c.holds("refused", then.equals(Checks.all(x)));
        x.note(0, 0, 1);
        Checks.feed(x, "p1");
        c.due("back once more", 1, x.goBack(0));
        c.due("the book stays", 1, x.told(8));
        c.due("the text stays", 2, x.told(5));
    }

    private static void imagesApart() {
        SevenBlows x = c.land(TEXT);
        x.keep(0);
        x.belt(0, 1);
        x.keep(1);
        x.belt(0, 2);
        x.goBack(0);
        c.due("image 0", 50, x.fighter(0, 2));
        x.goBack(1);
        c.due("image 1", 1, x.fighter(0, 2));
        x.belt(0, 3);
        c.due("keep over", 1, x.keep(0));
        x.belt(0, 4);
        x.goBack(0);
        c.due("image 0 anew", 3, x.fighter(0, 2));
        x.goBack(1);
        c.due("image 1 as it was", 1, x.fighter(0, 2));
    }

    private static void imageOfMany() {
        SevenBlows x = c.land("p6;" + "f3 9 30;".repeat(5) + "t0 9 1 4;".repeat(6) + "r5 1 0;".repeat(4) + "e5 4 50;");
        x.attempt(4, 5, 8);
        String then = Checks.all(x);
        x.keep(1);
        for (int f = 0; f < 5; f++) {
            x.read(5, f);
            x.inspect(4, f);
            x.attempt(f, 5, 7);
            x.attempt(f, 4, 0);
        }
        x.goBack(1);
        c.holds("all of many", then.equals(Checks.all(x)));
    }
}
