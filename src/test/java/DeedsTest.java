/** Promises 11 to 16: belts read and written, rumours, inspections, tasks tried, days by draws. */
public final class DeedsTest {
    private static final Checks c = new Checks();

    public static void main(String[] args) {
        reads();
        rumours();
        inspections();
        belts();
        attemptsByStrength();
        attemptsByFear();
        attemptsByTricks();
        attemptsRefused();
        retired();
        drifts();
        driftsRefused();
        fullLand();
        c.end();
    }

    private static void refused(SevenBlows x, String before) {
        c.holds("what is refused changes nothing", before.equals(Checks.all(x)));
    }

    private static void reads() {
        SevenBlows x = c.land("p2;f0 10 50;f1 10 50;f2 10 50;f4 10 50;e0 0 60;e1 1 5;");
        c.due("thinks more already", 60, x.read(0, 0));
        c.due("reads", 50, x.read(1, 0));
        c.due("reads a silent one", 5, x.read(1, 1));
        c.due("reads a famed one", 75, x.read(1, 2));
        c.due("reads a retired one", 50, x.read(0, 3));
        c.due("kept", 50, x.thinks(0, 3));
        c.due("others do not", 0, x.thinks(1, 3));
        String before = Checks.all(x);
        c.due("read by nobody", Checks.UNKNOWN, x.read(2, 0));
        c.due("read by -1", Checks.UNKNOWN, x.read(-1, 0));
        c.due("read of nobody", Checks.UNKNOWN, x.read(0, 4));
        c.due("read of -1", Checks.UNKNOWN, x.read(0, -1));
        refused(x, before);
    }

    private static void rumours() {
        SevenBlows x = c.land("p5;f0 1 1;f0 1 1;c0 1;c1 2;c3 2;e0 0 50;e3 0 20;e4 0 99;e4 1 9;");
        c.due("rumour", 2, x.rumour(0));
        int[] first = {50, 50, 20, 20, 99};
        int[] second = {50, 50, 50, 20, 99};
        int[] third = {50, 50, 50, 50, 99};
        thoughts(x, first);
        c.due("rumour again", 1, x.rumour(0));
        thoughts(x, second);
        c.due("rumour a third time", 1, x.rumour(0));
        thoughts(x, third);
        c.due("rumour at rest", 0, x.rumour(0));
        thoughts(x, third);
        c.due("rumour of another", 0, x.rumour(1));
        String before = Checks.all(x);
        c.due("rumour of nobody", Checks.UNKNOWN, x.rumour(2));
        c.due("rumour of -1", Checks.UNKNOWN, x.rumour(-1));
        refused(x, before);
    }

    private static void thoughts(SevenBlows x, int[] due) {
        for (int p = 0; p < due.length; p++) {
            c.due("thinks " + p, due[p], x.thinks(p, 0));
        }
    }

    private static void inspections() {
        SevenBlows x = c.land("p2;f0 10 50;f3 20 60;f1 30 7;e0 0 60;e1 1 5;");
        c.due("inspect", 10, x.inspect(0, 0));
        c.due("thinks less", 10, x.thinks(0, 0));
        c.due("belt stays", 50, x.fighter(0, 2));
        c.due("inspect borrowed", 20, x.inspect(1, 1));
        c.due("thinks more", 20, x.thinks(1, 1));
        c.due("belt is gone", 0, x.fighter(1, 2));
        c.due("others think on", 0, x.thinks(0, 1));
        c.due("written anew", 0, x.belt(1, 30));
        c.due("reads anew", 30, x.fighter(1, 3));
        c.due("inspect silent", 30, x.inspect(0, 2));
        c.due("silent belt stays", 7, x.fighter(2, 2));
        String before = Checks.all(x);
        c.due("inspect by nobody", Checks.UNKNOWN, x.inspect(2, 1));
        c.due("inspect by -1", Checks.UNKNOWN, x.inspect(-1, 1));
        c.due("inspect nobody", Checks.UNKNOWN, x.inspect(0, 3));
        c.due("inspect -1", Checks.UNKNOWN, x.inspect(0, -1));
        refused(x, before);
    }

    private static void belts() {
        SevenBlows x = c.land("p1;f0 10 50;f1 10 60;");
        c.due("belt", 50, x.belt(0, 99));
        c.due("belt 0", 99, x.belt(0, 0));
        c.due("belt back", 0, x.belt(0, 1));
        c.due("silent belt", 60, x.belt(1, 70));
        c.due("silent belt is", 70, x.fighter(1, 2));
        c.due("silent still", 0, x.fighter(1, 3));
        c.due("nobody thinks else", 0, x.told(7));
        String before = Checks.all(x);
        c.due("belt of nobody", Checks.UNKNOWN, x.belt(2, 100));
        c.due("belt of -1", Checks.UNKNOWN, x.belt(-1, 1));
        c.due("belt 100", Checks.OUTSIDE, x.belt(0, 100));
        c.due("belt -1", Checks.OUTSIDE, x.belt(0, -1));
        refused(x, before);
    }

    private static void attemptsByStrength() {
        SevenBlows x = c.land("p3;f0 50 0;f0 49 0;f3 10 80;t1 50 5 4;t1 0 3 20;e0 0 97;e1 1 99;e1 2 40;e2 2 60;");
        c.due("as strong", 1, x.attempt(0, 0, 0));
        c.due("at most 99", 99, x.thinks(0, 0));
        c.due("more by fame", 4, x.thinks(1, 0));
        c.due("more by fame, too", 4, x.thinks(2, 0));
        c.due("of others nothing", 60, x.thinks(2, 2));
        c.due("weaker, but feared", 1, x.attempt(1, 0, 0));
        c.due("others may do it, too", 1, x.fighter(1, 4));
        c.due("weaker", 0, x.attempt(2, 0, 0));
        c.due("the guard knows", 10, x.thinks(1, 2));
        c.due("others do not", 60, x.thinks(2, 2));
        c.due("a try is no inspection", 80, x.fighter(2, 2));
        c.due("not done", 0, x.fighter(2, 4));
        c.due("no danger", 1, x.attempt(2, 1, 0));
        c.due("done", 2, x.fighter(2, 4));
        c.due("tries again", 0, x.attempt(2, 0, 0));
    }

    private static void attemptsByFear() {
        SevenBlows x = c.land("p1;f0 1 0;f0 1 0;t0 30 1 1;t0 98 1 0;t0 99 1 0;e0 0 30;e0 1 31;");
        c.due("no more than danger", 0, x.attempt(0, 0, 0));
        c.due("it thinks strength", 1, x.thinks(0, 0));
        c.due("more than danger", 1, x.attempt(1, 0, 0));
        x.belt(1, 99);
        x.read(0, 1);
        c.due("99 is more than 98", 1, x.attempt(1, 1, 0));
        c.due("99 is not more than 99", 0, x.attempt(1, 2, 0));
    }

    private static void attemptsByTricks() {
        String text = "p2;f0 10 0;f0 10 0;f0 0 0;t0 60 5 0;t1 20 1 0;r0 30 40;r0 20 41;r1 99 0;r0 20 0;e0 0 40;e0 1 40;e0 2 60;";
        SevenBlows x = c.land(text);
        c.due("30 and 20 leave 10", 1, x.attempt(0, 0, 9));
        c.due("used", 9, x.fighter(0, 5));
        c.due("fame 0", 40, x.thinks(0, 0));
        c.due("20 needs 41", 0, x.attempt(1, 0, 3));
        c.due("used by failing, too", 3, x.fighter(1, 5));
        c.due("guard knows", 10, x.thinks(0, 1));
        c.due("used again", Checks.NOT, x.attempt(1, 0, 9));
        c.due("not more than all of it", 0, x.attempt(2, 0, 8));
        c.due("guard of the other", 1, x.attempt(2, 1, 4));
        c.due("to 0 at least", 2, x.fighter(2, 4));
    }

    private static void attemptsRefused() {
        SevenBlows x = c.land("p1;f0 50 0;t0 10 5 4;t0 90 5 4;r0 5 0;r1 5 0;");
        x.attempt(0, 1, 2);
        x.attempt(0, 0, 0);
        String before = Checks.all(x);
        c.due("fighter", Checks.UNKNOWN, x.attempt(1, 0, 0));
        c.due("fighter -1", Checks.UNKNOWN, x.attempt(-1, 0, 0));
        c.due("task", Checks.UNKNOWN, x.attempt(0, 2, 0));
        c.due("task -1", Checks.UNKNOWN, x.attempt(0, -1, 0));
        c.due("trick 2", Checks.UNKNOWN, x.attempt(0, 0, 4));
        c.due("tricks -1", Checks.UNKNOWN, x.attempt(0, 0, -1));
        c.due("trick 31", Checks.UNKNOWN, x.attempt(0, 1, Integer.MIN_VALUE));
        c.due("done", Checks.NOT, x.attempt(0, 0, 0));
        c.due("done, with its trick", Checks.NOT, x.attempt(0, 0, 1));
        c.due("another task's", Checks.NOT, x.attempt(0, 1, 1));
        c.due("used", Checks.NOT, x.attempt(0, 1, 2));
        c.due("both", Checks.NOT, x.attempt(0, 1, 3));
        refused(x, before);
        c.due("without", 0, x.attempt(0, 1, 0));
    }

    private static void retired() {
        SevenBlows x = c.land("p1;f4 50 0;t0 0 5 4;r0 5 0;e0 0 99;");
        c.due("retired", 0, x.attempt(0, 0, 1));
        c.due("trick used", 1, x.fighter(0, 5));
        c.due("not done", 0, x.fighter(0, 4));
        c.due("guard knows", 50, x.thinks(0, 0));
    }

    /** The draws of seed 0: 0 0 1, 1 0 1, 1 1 2, 1 1 1, 1 0 0, 0 0 1, 2 1 0, 1 1 2 (of 3, of 2, of 3). */
    private static void drifts() {
        SevenBlows x = c.land("p3;f0 10 50;f3 20 60;c0 1;e0 0 5;");
        c.due("drift 1", 1, x.drift(1));
        c.due("seed", 654583775, x.seed(0));
        c.due("a rumour", 5, x.thinks(1, 0));
        x.seed(654583775);
        c.due("drift 2 more", 3, x.drift(2));
        c.due("inspected", 20, x.thinks(1, 1));
        c.due("borrowed is gone", 0, x.fighter(1, 2));
        x.belt(1, 70);
        c.due("days", 8, x.drift(5));
        c.due("days told", 8, x.told(6));
        c.due("he told it", 20, x.thinks(0, 1));
        c.due("he read", 50, x.thinks(1, 0));
        c.due("and told it", 50, x.thinks(0, 0));
        c.due("he did not hear", 0, x.thinks(2, 0));
        c.due("he read, too", 70, x.thinks(2, 1));
        c.due("he inspected again", 20, x.thinks(1, 1));
        c.due("gone again", 0, x.fighter(1, 2));
        c.due("seed of eight", 1538207304, x.seed(2147483647));
        c.due("99 days", 107, x.drift(99));
    }

    private static void driftsRefused() {
        SevenBlows x = c.land("p3;");
        c.due("nobody fights", Checks.NOT, x.drift(1));
        c.due("outside first", Checks.OUTSIDE, x.drift(0));
        x = c.land("p3;f0 1 1;");
        x.seed(9);
        String before = Checks.all(x);
        c.due("0 days", Checks.OUTSIDE, x.drift(0));
        c.due("-1 days", Checks.OUTSIDE, x.drift(-1));
        c.due("100 days", Checks.OUTSIDE, x.drift(100));
        refused(x, before);
        c.due("one day", 1, x.drift(1));
        c.due("2 of 3", 3, x.drift(2));
    }

    /** As many of all as there can be. */
    private static void fullLand() {
        SevenBlows x = c.land("p6;" + "f0 9 30;".repeat(5) + "c0 1;c1 2;c2 3;c3 4;c4 5;" + "t5 9 1 4;".repeat(6) + "r5 1 0;".repeat(4) + "e5 4 50;");
        c.due("rumour", 1, x.rumour(4));
        c.due("heard", 50, x.thinks(4, 4));
        c.due("attempt", 1, x.attempt(4, 5, 15));
        for (int p = 0; p < 6; p++) {
            c.due("fame at " + p, p < 4 ? 4 : 54, x.thinks(p, 4));
            c.due("none of another at " + p, 0, x.thinks(p, 3));
        }
        c.due("read", 30, x.read(5, 3));
        c.due("inspect", 9, x.inspect(5, 4));
        c.due("belt", 30, x.belt(4, 5));
        c.due("all", 4 * 4 + 54 + 9 + 30, x.told(7));
        c.due("days", 99, x.drift(99));
        x = c.land("p1;f0 9 30;");
        c.due("one person, one fighter", 9, x.drift(9));
        c.holds("he read or inspected", x.thinks(0, 0) == 9 || x.thinks(0, 0) == 30);
    }
}
