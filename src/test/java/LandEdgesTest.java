/** The edges of promises 6 to 10 and of what a BELT READS: the first and the last of each row, the ones next to them. */
public final class LandEdgesTest {
    private static final Checks c = new Checks();
    private static final int[] FAR = {6, 7, 31, 32, 1000000, Integer.MAX_VALUE, Integer.MIN_VALUE, -2, -1};
    private static final String FULL_LAND = "p6;f0 11 12;f1 13 14;f2 15 16;f3 17 18;f4 19 20;"
        + "t0 21 22 1;t1 23 24 2;t2 25 26 3;t3 27 28 4;t4 29 30 5;t5 31 32 6;r0 33 34;r1 35 36;r1 37 38;r5 39 40;";

    public static void main(String[] args) {
        silentReads0();
        famedReadsAHalfMore();
        othersReadTheBelt();
        firstAndLastFighter();
        noFighterBeyond();
        fighterWhat();
        doneAndUsedAsSets();
        worthOfNothingAndAll();
        thinksOfFirstAndLast();
        chatsAsSets();
        firstAndLastTask();
        taskWhat();
        tricksOfATask();
        firstAndLastTrick();
        trickWhat();
        nothingToldOfThem();
        c.end();
    }

    private static void silentReads0() {
        SevenBlows x = c.land("p1;f1 50 99;");
        for (int b = 0; b <= 99; b++) {
            x.belt(0, b);
            c.due("P6: silent BELT is " + b, b, x.fighter(0, 2));
            c.due("P6: silent READS of " + b, 0, x.fighter(0, 3));
        }
        c.due("P11: nothing to READ", 0, x.read(0, 0));
    }

    private static void famedReadsAHalfMore() {
        SevenBlows x = c.land("p1;f2 50 99;");
        c.due("P6: famed 99 at most", 99, x.fighter(0, 3));
        for (int b = 0; b <= 99; b++) {
            x.belt(0, b);
            c.due("P6: famed BELT is " + b, b, x.fighter(0, 2));
            c.due("P6: famed READS of " + b, b < 66 ? (3 * b - b % 2) / 2 : 99, x.fighter(0, 3));
        }
        int[][] edges = {{0, 0}, {1, 1}, {2, 3}, {3, 4}, {65, 97}, {66, 99}, {67, 99}, {99, 99}};
        for (int[] edge : edges) {
            x.belt(0, edge[0]);
            c.due("P6: famed READS of " + edge[0], edge[1], x.fighter(0, 3));
        }
    }

    private static void othersReadTheBelt() {
        SevenBlows x = c.land("p1;f0 50 99;f3 50 99;f4 50 99;");
        for (int f = 0; f < 3; f++) {
            for (int b : new int[] {0, 1, 50, 98, 99}) {
                x.belt(f, b);
                c.due("P6: FIGHTER " + f + " READS of " + b, b, x.fighter(f, 3));
            }
        }
    }

    private static void firstAndLastFighter() {
        SevenBlows x = c.land(FULL_LAND);
        int[] reads = {12, 0, 24, 18, 20};
        for (int f = 0; f < 5; f++) {
            int[] due = {f, 11 + 2 * f, 12 + 2 * f, reads[f], 0, 0, 0};
            for (int what = 0; what <= 6; what++) {
                c.due("P6: fighter " + f + " " + what, due[what], x.fighter(f, what));
            }
        }
    }

    private static void noFighterBeyond() {
        for (int n = 0; n <= 5; n++) {
            SevenBlows x = c.land("p1;" + "f0 7 8;".repeat(n));
            for (int f = 0; f < n; f++) {
                c.due("P6: FIGHTER " + f + " of " + n, 7, x.fighter(f, 1));
            }
            c.due("P6: FIGHTER " + n + " of " + n, Checks.UNKNOWN, x.fighter(n, 1));
            for (int f : FAR) {
                c.due("P6: FIGHTER " + f + " of " + n, Checks.UNKNOWN, x.fighter(f, 1));
                c.due("P6: UNKNOWN ahead of OUTSIDE, " + f, Checks.UNKNOWN, x.fighter(f, 7));
            }
        }
    }

    private static void fighterWhat() {
        SevenBlows x = c.land(FULL_LAND);
        c.due("P6: what 0", 4, x.fighter(4, 0));
        c.due("P6: what 6", 0, x.fighter(4, 6));
        for (int what : new int[] {-1, 7, 8, Integer.MIN_VALUE, Integer.MAX_VALUE}) {
            c.due("P6: what " + what, Checks.OUTSIDE, x.fighter(4, what));
        }
    }

    private static void doneAndUsedAsSets() {
        String text = "p1;f0 99 0;f0 99 0;" + "t0 1 1 0;".repeat(6) + "r0 1 0;r1 1 0;r5 1 0;r5 1 0;";
        for (int t = 0; t < 6; t++) {
            SevenBlows x = c.land(text);
            x.attempt(1, t, 0);
            c.due("P6: done is bit " + t, 1 << t, x.fighter(1, 4));
            c.due("P6: no TRICK used", 0, x.fighter(1, 5));
            c.due("P6: the other did nothing", 0, x.fighter(0, 4));
        }
        for (int r = 0; r < 4; r++) {
            SevenBlows x = c.land(text);
            x.attempt(1, x.trick(r, 0), 1 << r);
            c.due("P6: used is bit " + r, 1 << r, x.fighter(1, 5));
            c.due("P6: the other used none", 0, x.fighter(0, 5));
        }
        SevenBlows x = c.land(text);
        for (int t = 5; t >= 0; t--) {
            x.attempt(0, t, x.task(t, 4));
        }
        c.due("P6: all done", 63, x.fighter(0, 4));
        c.due("P6: all used", 15, x.fighter(0, 5));
    }

    private static void worthOfNothingAndAll() {
        SevenBlows x = c.land("p1;f0 99 0;" + "t0 0 99 0;".repeat(5) + "t0 0 0 0;");
        c.due("P6: V of nothing", 0, x.fighter(0, 6));
        for (int t = 5; t >= 0; t--) {
            x.attempt(0, t, 0);
            c.due("P6: V of " + (6 - t), 99 * (5 - t), x.fighter(0, 6));
        }
    }

    private static void thinksOfFirstAndLast() {
        SevenBlows x = c.land("p6;" + "f0 9 9;".repeat(5) + "e0 0 1;e0 4 2;e5 0 3;e5 4 99;");
        c.due("P7: the first of the first", 1, x.thinks(0, 0));
        c.due("P7: the first of the last", 2, x.thinks(0, 4));
        c.due("P7: the last of the first", 3, x.thinks(5, 0));
        c.due("P7: the last of the last", 99, x.thinks(5, 4));
        c.due("P7: told of 5 is not told of 1 0", 0, x.thinks(1, 0));
        c.due("P7: PERSON 6", Checks.UNKNOWN, x.thinks(6, 0));
        c.due("P7: FIGHTER 5", Checks.UNKNOWN, x.thinks(0, 5));
        c.due("P7: neither", Checks.UNKNOWN, x.thinks(6, 5));
        for (int far : FAR) {
            c.due("P7: PERSON " + far, Checks.UNKNOWN, x.thinks(far, 0));
            c.due("P7: FIGHTER " + far, Checks.UNKNOWN, x.thinks(0, far));
        }
    }

    private static void chatsAsSets() {
        SevenBlows x = c.land("p6;c0 5;c5 4;c1 5;c5 2;c3 5;");
        for (int p = 0; p < 5; p++) {
            c.due("P8: PERSON " + p + " with the last", 1 << 5, x.chats(p));
        }
        c.due("P8: the last with all others", 31, x.chats(5));
        for (int far : FAR) {
            c.due("P8: PERSON " + far, Checks.UNKNOWN, x.chats(far));
        }
        c.due("P8: with nobody", 0, c.land("p1;").chats(0));
        c.due("P8: PERSON 1 of 1", Checks.UNKNOWN, c.land("p1;").chats(1));
    }

    private static void firstAndLastTask() {
        SevenBlows x = c.land(FULL_LAND);
        int[] tricks = {1, 6, 0, 0, 0, 8};
        for (int t = 0; t < 6; t++) {
            int[] due = {t, 21 + 2 * t, 22 + 2 * t, 1 + t, tricks[t]};
            for (int what = 0; what <= 4; what++) {
                c.due("P9: task " + t + " " + what, due[what], x.task(t, what));
            }
        }
        for (int n = 0; n <= 6; n++) {
            SevenBlows some = c.land("p1;" + "t0 7 8 9;".repeat(n));
            c.due("P9: TASK " + n + " of " + n, Checks.UNKNOWN, some.task(n, 0));
            c.due("P9: TASK " + (n - 1) + " of " + n, n == 0 ? Checks.UNKNOWN : 7, some.task(n - 1, 1));
        }
        for (int far : FAR) {
            c.due("P9: TASK " + far, Checks.UNKNOWN, x.task(far, 0));
            c.due("P9: UNKNOWN ahead of OUTSIDE, " + far, Checks.UNKNOWN, x.task(far, 5));
        }
    }

    private static void taskWhat() {
        SevenBlows x = c.land(FULL_LAND);
        for (int what : new int[] {-1, 5, 6, Integer.MIN_VALUE, Integer.MAX_VALUE}) {
            c.due("P9: what " + what, Checks.OUTSIDE, x.task(5, what));
        }
    }

    private static void tricksOfATask() {
        SevenBlows x = c.land("p1;t0 1 1 1;t0 1 1 1;" + "r1 1 0;".repeat(4));
        c.due("P9: no TRICK", 0, x.task(0, 4));
        c.due("P9: all TRICKS", 15, x.task(1, 4));
        x = c.land("p1;f0 9 9;t0 1 1 1;r0 1 0;");
        x.attempt(0, 0, 1);
        c.due("P9: used ones, too", 1, x.task(0, 4));
    }

    private static void firstAndLastTrick() {
        SevenBlows x = c.land(FULL_LAND);
        int[] tasks = {0, 1, 1, 5};
        for (int r = 0; r < 4; r++) {
            int[] due = {tasks[r], 33 + 2 * r, 34 + 2 * r};
            for (int what = 0; what <= 2; what++) {
                c.due("P10: trick " + r + " " + what, due[what], x.trick(r, what));
            }
        }
        for (int n = 0; n <= 4; n++) {
            SevenBlows some = c.land("p1;t0 1 1 1;" + "r0 7 8;".repeat(n));
            c.due("P10: TRICK " + n + " of " + n, Checks.UNKNOWN, some.trick(n, 1));
            c.due("P10: TRICK " + (n - 1) + " of " + n, n == 0 ? Checks.UNKNOWN : 7, some.trick(n - 1, 1));
        }
        for (int far : FAR) {
            c.due("P10: TRICK " + far, Checks.UNKNOWN, x.trick(far, 0));
            c.due("P10: UNKNOWN ahead of OUTSIDE, " + far, Checks.UNKNOWN, x.trick(far, 3));
        }
    }

    private static void trickWhat() {
        SevenBlows x = c.land(FULL_LAND);
        for (int what : new int[] {-1, 3, 4, Integer.MIN_VALUE, Integer.MAX_VALUE}) {
            c.due("P10: what " + what, Checks.OUTSIDE, x.trick(3, what));
        }
    }

    private static void nothingToldOfThem() {
        SevenBlows x = c.land("p6;");
        c.due("P6: no FIGHTER", Checks.UNKNOWN, x.fighter(0, 0));
        c.due("P7: nobody to think of", Checks.UNKNOWN, x.thinks(0, 0));
        c.due("P8: no CHATS", 0, x.chats(5));
        c.due("P9: no TASK", Checks.UNKNOWN, x.task(0, 0));
        c.due("P10: no TRICK", Checks.UNKNOWN, x.trick(0, 0));
        c.due("P5: nothing thought", 0, x.told(7));
    }
}
