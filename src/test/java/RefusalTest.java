/** Each refusal of each call, of several the first in the order of the document, and that it changes nothing. */
public final class RefusalTest {
    private static final Checks c = new Checks();
    private static final int LEAST = Integer.MIN_VALUE;
    private static final int GREATEST = Integer.MAX_VALUE;
    /** No index of anything, in a land of two PEOPLE, FIGHTERS, TASKS and TRICKS. */
    private static final int[] NOBODY = {-1, 2, 6, 33, LEAST, GREATEST};

    public static void main(String[] args) {
        constants();
        busyIsBusy();
        lettersAndTold();
        landAsked();
        deeds();
        attempts();
        drifts();
        tried();
        books();
        full();
        severalAtOnce();
        nothingToldYet();
        c.end();
    }

    /** Some of all has been done, both IMAGES differ, a text is half told, and SEED and BOOK are in use. */
    private static void busy(SevenBlows x) {
        Checks.feed(x, "p2;f0 10 50;f3 20 60;c0 1;t0 5 7 3;t1 90 4 9;r0 1 0;r1 5 7;e0 0 5;e1 1 9;");
        x.land();
        x.seed(77);
        x.drift(2);
        x.keep(1);
        x.attempt(0, 0, 0);
        x.attempt(1, 1, 2);
        x.belt(1, 33);
        x.note(0, 0, x.thinks(0, 0));
        x.note(1, 1, 98);
        x.keep(0);
        x.read(0, 1);
        x.belt(0, 44);
        Checks.feed(x, "p3;f1 2 3;");
    }

    /** What the refusals rest on. */
    private static void busyIsBusy() {
        SevenBlows x = new SevenBlows();
        busy(x);
        c.due("done by 0", 1, x.fighter(0, 4));
        c.due("done by 1", 0, x.fighter(1, 4));
        c.due("used by 0", 0, x.fighter(0, 5));
        c.due("used by 1", 2, x.fighter(1, 5));
        c.due("days", 2, x.told(6));
        c.due("entries", 2, x.told(8));
        c.due("the second is wrong", 1, x.judge());
        c.due("letters", 10, x.told(5));
        String now = Checks.all(x);
        x.goBack(0);
        String first = Checks.all(x);
        x.goBack(1);
        String second = Checks.all(x);
        c.holds("now and both IMAGES are unlike", !now.equals(first) && !now.equals(second) && !first.equals(second));
        c.due("a land in THE TEXT", 3, x.land());
        c.due("with a FIGHTER", 2, x.fighter(0, 1));
    }

    private static void refused(String call, int refusal, Checks.Call asked) {
        c.refused(call, refusal, RefusalTest::busy, asked);
    }

    private static void unknown(String call, Checks.Call asked) {
        refused(call, Checks.UNKNOWN, asked);
    }

    private static void outside(String call, Checks.Call asked) {
        refused(call, Checks.OUTSIDE, asked);
    }

    private static void not(String call, Checks.Call asked) {
        refused(call, Checks.NOT, asked);
    }

    private static void constants() {
        c.due("NONE", -1, SevenBlows.NONE);
        c.due("UNKNOWN", -1000000001, SevenBlows.UNKNOWN);
        c.due("OUTSIDE", -1000000002, SevenBlows.OUTSIDE);
        c.due("NOT", -1000000003, SevenBlows.NOT);
        c.due("FULL", -1000000004, SevenBlows.FULL);
    }

    private static void lettersAndTold() {
        for (int letter : new int[] {-1, 256, LEAST, GREATEST}) {
            outside("feed " + letter, x -> x.feed(letter));
        }
        for (int what : new int[] {-1, 9, LEAST, GREATEST}) {
            outside("told " + what, x -> x.told(what));
        }
    }

    private static void landAsked() {
        for (int nobody : NOBODY) {
            unknown("fighter " + nobody, x -> x.fighter(nobody, 0));
            unknown("thinks " + nobody + " 0", x -> x.thinks(nobody, 0));
            unknown("thinks 0 " + nobody, x -> x.thinks(0, nobody));
            unknown("chats " + nobody, x -> x.chats(nobody));
            unknown("task " + nobody, x -> x.task(nobody, 0));
            unknown("trick " + nobody, x -> x.trick(nobody, 0));
        }
        for (int what : new int[] {-1, LEAST, GREATEST}) {
            outside("fighter what " + what, x -> x.fighter(0, what));
            outside("task what " + what, x -> x.task(0, what));
            outside("trick what " + what, x -> x.trick(0, what));
        }
        outside("fighter what 7", x -> x.fighter(1, 7));
        outside("task what 5", x -> x.task(1, 5));
        outside("trick what 3", x -> x.trick(1, 3));
    }

    private static void deeds() {
        for (int nobody : NOBODY) {
            unknown("read " + nobody + " 0", x -> x.read(nobody, 0));
            unknown("read 0 " + nobody, x -> x.read(0, nobody));
            unknown("rumour " + nobody, x -> x.rumour(nobody));
            unknown("inspect " + nobody + " 1", x -> x.inspect(nobody, 1));
            unknown("inspect 1 " + nobody, x -> x.inspect(1, nobody));
            unknown("belt " + nobody, x -> x.belt(nobody, 5));
        }
        for (int b : new int[] {-1, 100, LEAST, GREATEST}) {
            outside("belt 1 " + b, x -> x.belt(1, b));
        }
    }

    private static void attempts() {
        for (int nobody : NOBODY) {
            unknown("attempt " + nobody + " 0 0", x -> x.attempt(nobody, 0, 0));
            unknown("attempt 1 " + nobody + " 0", x -> x.attempt(1, nobody, 0));
        }
        for (int tricks : new int[] {4, 5, 6, 7, 8, 1 << 30, LEAST, GREATEST, -1, -4, -2}) {
            unknown("attempt 1 0 by " + tricks, x -> x.attempt(1, 0, tricks));
            unknown("attempt 0 0, done, by " + tricks, x -> x.attempt(0, 0, tricks));
        }
        not("attempt of what is done", x -> x.attempt(0, 0, 0));
        not("attempt of what is done, with its TRICK", x -> x.attempt(0, 0, 1));
        not("attempt with a TRICK of another TASK", x -> x.attempt(1, 0, 2));
        not("attempt with one of its own and one of another", x -> x.attempt(1, 0, 3));
        not("attempt with one of another, not used", x -> x.attempt(0, 1, 1));
        not("attempt with a used TRICK", x -> x.attempt(1, 1, 2));
        not("attempt with a used TRICK and one of another", x -> x.attempt(1, 1, 3));
    }

    private static void drifts() {
        for (int n : new int[] {0, -1, 100, LEAST, GREATEST}) {
            outside("drift " + n, x -> x.drift(n));
        }
        for (String text : new String[] {"", "p2;", "p1;t0 1 1 1;"}) {
            Checks.Way way = x -> {
                Checks.feed(x, text);
                x.land();
                x.seed(9);
                x.keep(0);
            };
            c.refused("drift 1 of '" + text + "'", Checks.NOT, way, x -> x.drift(1));
            c.refused("drift 99 of '" + text + "'", Checks.NOT, way, x -> x.drift(99));
        }
    }

    private static void tried() {
        for (int nobody : NOBODY) {
            unknown("plan " + nobody, x -> x.plan(nobody, 0, 0));
            unknown("stops " + nobody, x -> x.stops(nobody));
            unknown("words " + nobody + " 0", x -> x.words(nobody, 0));
            unknown("words 1 " + nobody, x -> x.words(1, nobody));
            unknown("hire " + nobody, x -> x.hire(nobody, 0));
            unknown("saw " + nobody + " 0", x -> x.saw(nobody, 0, 0));
            unknown("saw 0 " + nobody, x -> x.saw(0, nobody, 0));
        }
        for (int nobody : new int[] {-2, 2, LEAST, GREATEST, Checks.UNKNOWN}) {
            unknown("write " + nobody, x -> x.write(nobody));
        }
        unknown("words 0 0", x -> x.words(0, 0));
        unknown("words 1 1", x -> x.words(1, 1));
        for (int what : new int[] {-1, 2, LEAST, GREATEST}) {
            outside("plan 0 -1 " + what, x -> x.plan(0, -1, what));
            outside("plan 1 0 " + what, x -> x.plan(1, 0, what));
            outside("plan 1 9 " + what, x -> x.plan(1, 9, what));
            outside("hire 0 " + what, x -> x.hire(0, what));
            outside("saw 1 1 " + what, x -> x.saw(1, 1, what));
            outside("tells 0 0 " + what, x -> x.tells(0, 0, what));
        }
        for (int much : new int[] {-1, 100, LEAST, GREATEST}) {
            outside("tells " + much + " 0", x -> x.tells(much, 0, 0));
            outside("tells 0 " + much, x -> x.tells(0, much, 1));
        }
        for (int n : new int[] {-1, 0, 10, LEAST, GREATEST}) {
            outside("hides " + n, x -> x.hides(n, 5));
        }
        for (int q : new int[] {-1, 101, LEAST, GREATEST}) {
            outside("hides by " + q, x -> x.hides(5, q));
        }
    }

    private static void books() {
        for (int nobody : NOBODY) {
            unknown("note " + nobody + " 0", x -> x.note(nobody, 0, 5));
            unknown("note 0 " + nobody, x -> x.note(0, nobody, 5));
            unknown("keep " + nobody, x -> x.keep(nobody));
            unknown("goBack " + nobody, x -> x.goBack(nobody));
        }
        for (int much : new int[] {-1, 100, LEAST, GREATEST}) {
            outside("note 1 1 " + much, x -> x.note(1, 1, much));
        }
        for (int v : new int[] {-1, -2, LEAST, Checks.UNKNOWN}) {
            outside("seed " + v, x -> x.seed(v));
        }
        for (int i = 0; i < 2; i++) {
            int image = i;
            Checks.Way way = x -> {
                Checks.feed(x, "p1;f0 1 1;");
                x.land();
                x.seed(9);
                x.keep(1 - image);
                x.drift(3);
                x.belt(0, 8);
            };
            c.refused("goBack " + i, Checks.NOT, way, x -> x.goBack(image));
        }
    }

    private static void full() {
        Checks.Way letters = x -> {
            Checks.feed(x, "p1;f0 1 1;" + " ".repeat(230) + "f2 33 44 ;");
        };
        c.refused("a 251st letter", Checks.FULL, letters, x -> x.feed('p'));
        c.refused("a 251st blank", Checks.FULL, letters, x -> x.feed(' '));
        c.refused("letter 256 behind 250", Checks.OUTSIDE, letters, x -> x.feed(256));
        Checks.Way entries = x -> {
            busy(x);
            for (int i = 0; i < 13; i++) {
                x.note(1, 1, 50 + i);
            }
        };
        c.refused("a sixteenth entry", Checks.FULL, entries, x -> x.note(0, 0, 50));
        c.refused("a sixteenth entry of 100", Checks.OUTSIDE, entries, x -> x.note(0, 0, 100));
        c.refused("a sixteenth entry of nobody", Checks.UNKNOWN, entries, x -> x.note(2, 0, 50));
    }

    private static void severalAtOnce() {
        unknown("fighter 2 7", x -> x.fighter(2, 7));
        unknown("task 2 5", x -> x.task(2, 5));
        unknown("trick 2 3", x -> x.trick(2, 3));
        unknown("belt 2 100", x -> x.belt(2, 100));
        unknown("attempt 2 0 0, which 0 did", x -> x.attempt(2, 0, 0));
        unknown("attempt 0 0 4, which he did", x -> x.attempt(0, 0, 4));
        unknown("attempt 1 1 6, one used, one that there is not", x -> x.attempt(1, 1, 6));
        unknown("plan 2 0 2", x -> x.plan(2, 0, 2));
        unknown("hire 2 2", x -> x.hire(2, 2));
        unknown("saw 2 0 2", x -> x.saw(2, 0, 2));
        unknown("saw 0 2 2", x -> x.saw(0, 2, 2));
        unknown("note 2 0 100", x -> x.note(2, 0, 100));
        unknown("note 0 2 100", x -> x.note(0, 2, 100));
        c.refused("drift 0 of nobody", Checks.OUTSIDE, x -> x.seed(3), x -> x.drift(0));
        c.refused("drift 100 of nobody", Checks.OUTSIDE, x -> x.seed(3), x -> x.drift(100));
        c.refused("goBack 2, none kept", Checks.UNKNOWN, x -> x.seed(3), x -> x.goBack(2));
    }

    private static void nothingToldYet() {
        Checks.Way nothing = x -> x.seed(3);
        c.refused("fighter", Checks.UNKNOWN, nothing, x -> x.fighter(0, 0));
        c.refused("thinks", Checks.UNKNOWN, nothing, x -> x.thinks(0, 0));
        c.refused("chats", Checks.UNKNOWN, nothing, x -> x.chats(0));
        c.refused("task", Checks.UNKNOWN, nothing, x -> x.task(0, 0));
        c.refused("trick", Checks.UNKNOWN, nothing, x -> x.trick(0, 0));
        c.refused("read", Checks.UNKNOWN, nothing, x -> x.read(0, 0));
        c.refused("rumour", Checks.UNKNOWN, nothing, x -> x.rumour(0));
        c.refused("inspect", Checks.UNKNOWN, nothing, x -> x.inspect(0, 0));
        c.refused("belt", Checks.UNKNOWN, nothing, x -> x.belt(0, 0));
        c.refused("attempt", Checks.UNKNOWN, nothing, x -> x.attempt(0, 0, 0));
        c.refused("drift", Checks.NOT, nothing, x -> x.drift(1));
        c.refused("plan", Checks.UNKNOWN, nothing, x -> x.plan(0, -1, 0));
        c.refused("stops", Checks.UNKNOWN, nothing, x -> x.stops(0));
        c.refused("write", Checks.UNKNOWN, nothing, x -> x.write(0));
        c.refused("words", Checks.UNKNOWN, nothing, x -> x.words(0, 1));
        c.refused("hire", Checks.UNKNOWN, nothing, x -> x.hire(0, 0));
        c.refused("saw", Checks.UNKNOWN, nothing, x -> x.saw(0, 0, 0));
        c.refused("note", Checks.UNKNOWN, nothing, x -> x.note(0, 0, 0));
        c.refused("goBack 0", Checks.NOT, nothing, x -> x.goBack(0));
        c.refused("goBack 1", Checks.NOT, nothing, x -> x.goBack(1));
    }
}
