/**
 * FULL of drift, promise 16: days are above 90000 as it is called. An object gets no further than 49599 days in the 512
 * calls that the document promises (DeedEdgesTest goes there), and what later calls answer is free; this class keeps
 * its word there, too, and so the sentence has its test. A class that does not need not keep this test.
 */
public final class BeyondTest {
    private static final Checks c = new Checks();

    public static void main(String[] args) {
        fullAbove90000();
        passes90000();
        fullIsTheLastRefusal();
        lessAgain();
        c.end();
    }

    private static SevenBlows atDay(int days) {
        SevenBlows x = c.land("p2;f0 9 30;c0 1;e1 0 7;");
        for (int i = 0; i < days / 99; i++) {
            x.drift(99);
        }
        if (days % 99 > 0) {
            x.drift(days % 99);
        }
        c.due("days", days, x.told(6));
        return x;
    }

    private static void fullAbove90000() {
        SevenBlows x = atDay(90000);
        c.due("90000 are not above 90000", 90001, x.drift(1));
        String before = Checks.all(x);
        c.due("90001 are", Checks.FULL, x.drift(1));
        c.due("for many, too", Checks.FULL, x.drift(99));
        c.same("what is refused changes nothing", before, Checks.all(x));
    }

    private static void passes90000() {
        SevenBlows x = atDay(90000);
        c.due("n may pass it", 90099, x.drift(99));
        c.due("but once", Checks.FULL, x.drift(99));
        c.due("from 89999", 90098, atDay(89999).drift(99));
    }

    private static void fullIsTheLastRefusal() {
        SevenBlows x = atDay(90001);
        c.due("OUTSIDE ahead of FULL, 0", Checks.OUTSIDE, x.drift(0));
        c.due("OUTSIDE ahead of FULL, 100", Checks.OUTSIDE, x.drift(100));
        c.due("FULL", Checks.FULL, x.drift(1));
    }

    private static void lessAgain() {
        SevenBlows x = c.land("p1;f0 9 30;");
        x.keep(0);
        for (int i = 0; i < 910; i++) {
            x.drift(99);
        }
        c.due("FULL", Checks.FULL, x.drift(1));
        x.goBack(0);
        c.due("days of an IMAGE", 5, x.drift(5));
        x = atDay(90001);
        Checks.feed(x, "p1;f0 9 30;");
        x.land();
        c.due("day 0 of a new land", 6, x.drift(6));
    }
}
