/** Promises 6 to 10: what a land says of fighters, people, tasks and tricks. */
public final class LandTest {
    private static final Checks c = new Checks();
    private static final String TEXT = "p4;f0 12 70;f1 80 99;f2 30 40;f3 20 60;f4 5 7;c0 1;c1 2;c3 0;"
        + "t0 10 5 4;t1 60 40 10;t2 90 70 0;t3 40 20 20;r1 30 50;r1 25 0;r2 80 75;r3 99 99;e0 1 25;e3 0 9;";

    public static void main(String[] args) {
        fighters();
        belts();
        doneWorth();
        people();
        tasks();
        tricks();
        c.end();
    }

    private static void fighters() {
        SevenBlows x = c.land(TEXT);
        int[][] due = {{0, 12, 70, 70}, {1, 80, 99, 0}, {2, 30, 40, 60}, {3, 20, 60, 60}, {4, 5, 7, 7}};
        for (int f = 0; f < 5; f++) {
            for (int what = 0; what < 4; what++) {
                c.due("fighter " + f + " " + what, due[f][what], x.fighter(f, what));
            }
            for (int what = 4; what <= 6; what++) {
                c.due("fighter " + f + " " + what, 0, x.fighter(f, what));
            }
        }
        c.due("no fighter", Checks.UNKNOWN, x.fighter(5, 0));
        c.due("fighter -1, outside", Checks.UNKNOWN, x.fighter(-1, 9));
        c.due("fighter what -1", Checks.OUTSIDE, x.fighter(0, -1));
        c.due("fighter what 7", Checks.OUTSIDE, x.fighter(0, 7));
    }

    private static void belts() {
        SevenBlows x = c.land("p1;f2 0 0;");
        int[][] due = {{0, 0}, {1, 1}, {2, 3}, {3, 4}, {33, 49}, {65, 97}, {66, 99}, {67, 99}, {99, 99}};
        for (int i = 0; i < due.length; i++) {
            x.belt(0, due[i][0]);
            c.due("famed reads of " + due[i][0], due[i][1], x.fighter(0, 3));
        }
    }

    private static void doneWorth() {
        SevenBlows x = c.land("p2;f0 50 0;t0 1 7 1;t1 99 50 1;t0 3 11 1;r2 1 0;r0 1 0;r0 5 99;");
        x.attempt(0, 0, 6);
        x.attempt(0, 1, 0);
        x.attempt(0, 2, 1);
        c.due("done", 5, x.fighter(0, 4));
        c.due("used", 7, x.fighter(0, 5));
        c.due("worth", 18, x.fighter(0, 6));
    }

    private static void people() {
        SevenBlows x = c.land(TEXT);
        c.due("thinks 0 1", 25, x.thinks(0, 1));
        c.due("thinks 3 0", 9, x.thinks(3, 0));
        c.due("thinks 1 0", 0, x.thinks(1, 0));
        c.due("no such person", Checks.UNKNOWN, x.thinks(4, 0));
        c.due("person -1", Checks.UNKNOWN, x.thinks(-1, 0));
        c.due("thinks of nobody", Checks.UNKNOWN, x.thinks(0, 5));
        c.due("thinks of -1", Checks.UNKNOWN, x.thinks(0, -1));
        int[] due = {10, 5, 2, 1};
        for (int p = 0; p < 4; p++) {
            c.due("chats " + p, due[p], x.chats(p));
        }
        c.due("chats 4", Checks.UNKNOWN, x.chats(4));
        c.due("chats -1", Checks.UNKNOWN, x.chats(-1));
    }

    private static void tasks() {
        SevenBlows x = c.land(TEXT);
        int[][] due = {{0, 10, 5, 4, 0}, {1, 60, 40, 10, 3}, {2, 90, 70, 0, 4}, {3, 40, 20, 20, 8}};
        for (int t = 0; t < 4; t++) {
            for (int what = 0; what < 5; what++) {
                c.due("task " + t + " " + what, due[t][what], x.task(t, what));
            }
        }
        c.due("task 4", Checks.UNKNOWN, x.task(4, 9));
        c.due("task -1", Checks.UNKNOWN, x.task(-1, 0));
        c.due("task what 5", Checks.OUTSIDE, x.task(0, 5));
        c.due("task what -1", Checks.OUTSIDE, x.task(0, -1));
    }

    private static void tricks() {
        SevenBlows x = c.land(TEXT);
        int[][] due = {{1, 30, 50}, {1, 25, 0}, {2, 80, 75}, {3, 99, 99}};
        for (int r = 0; r < 4; r++) {
            for (int what = 0; what < 3; what++) {
                c.due("trick " + r + " " + what, due[r][what], x.trick(r, what));
            }
        }
        c.due("trick 4", Checks.UNKNOWN, x.trick(4, 9));
        c.due("trick -1", Checks.UNKNOWN, x.trick(-1, 0));
        c.due("trick what 3", Checks.OUTSIDE, x.trick(0, 3));
        c.due("trick what -1", Checks.OUTSIDE, x.trick(0, -1));
    }
}
