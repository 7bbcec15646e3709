/** Promises 17 to 24: plans, what stops one, belts to write, what belts tell, words, hiring, what was seen, odds. */
public final class TriedTest {
    private static final Checks c = new Checks();
    private static final String TEXT = "p4;f0 12 70;f1 80 99;f2 30 40;f3 20 60;c0 1;c1 2;c2 3;t0 10 5 4;t1 60 40 10;"
        + "t2 90 70 0;t3 40 20 6;r1 30 50;r1 25 0;r2 80 75;r3 30 10;e0 1 25;e3 0 9;";

    public static void main(String[] args) {
        plans();
        plansOfLikeWorth();
        plansOfLeastSets();
        plansRefused();
        stops();
        writes();
        writesWithoutRest();
        tells();
        words();
        hires();
        saw();
        hides();
        c.end();
    }

    private static void row(SevenBlows x, int f, int worth, int[] tasks, int[] sets) {
        String before = Checks.all(x);
        c.due("worth of " + f, worth, x.plan(f, Checks.NONE, 0));
        c.due("worth of " + f + " by 1", worth, x.plan(f, Checks.NONE, 1));
        for (int i = 0; i < tasks.length; i++) {
            c.due("task " + i + " of " + f, tasks[i], x.plan(f, i, 0));
            c.due("set " + i + " of " + f, sets[i], x.plan(f, i, 1));
        }
        c.due("no more tasks of " + f, Checks.NONE, x.plan(f, tasks.length, 0));
        c.due("no more sets of " + f, Checks.NONE, x.plan(f, tasks.length, 1));
        c.due("nor far behind", Checks.NONE, x.plan(f, Integer.MAX_VALUE, 1));
        for (int i : new int[] {-2, -3, Checks.UNKNOWN, Integer.MIN_VALUE}) {
            c.due("no task " + i + " of " + f, Checks.NONE, x.plan(f, i, 0));
            c.due("no set " + i + " of " + f, Checks.NONE, x.plan(f, i, 1));
        }
        c.holds("a plan changes nothing", before.equals(Checks.all(x)));
    }

    private static void plans() {
        SevenBlows x = c.land(TEXT);
        row(x, 0, 25, new int[] {0, 3}, new int[] {0, 8});
        row(x, 1, 65, new int[] {0, 1, 3}, new int[] {0, 0, 0});
        x = c.land(TEXT);
        x.attempt(0, 3, 8);
        x.attempt(1, 1, 0);
        row(x, 0, 5, new int[] {0}, new int[] {0});
        row(x, 1, 25, new int[] {0, 3}, new int[] {0, 0});
        x = c.land(TEXT);
        x.attempt(0, 3, 8);
        x.attempt(0, 0, 0);
        row(x, 0, 0, new int[] {}, new int[] {});
        x = c.land("p1;f0 5 0;t0 40 1 20;t0 25 2 20;t0 6 3 20;t0 5 4 20;t0 60 9 0;r2 1 20;r4 1 0;");
        row(x, 0, 19, new int[] {3, 2, 1, 0, 4}, new int[5]);
        x = c.land("p1;f0 5 0;t0 30 1 0;t0 5 4 20;r0 25 20;");
        row(x, 0, 5, new int[] {1, 0}, new int[] {0, 1});
        x = c.land("p1;f0 5 0;t0 30 1 0;t0 5 4 20;r0 25 21;");
        row(x, 0, 4, new int[] {1}, new int[] {0});
        x = c.land("p1;f0 5 0;t0 39 1 20;t0 19 2 20;t0 5 4 20;t0 60 9 1;f4 99 0;");
        row(x, 0, 7, new int[] {2, 1, 0}, new int[] {0, 0, 0});
        row(x, 1, 0, new int[] {}, new int[] {});
        x = c.land("p1;f0 5 0;t0 98 9 0;t0 5 1 20;t0 5 1 20;t0 5 1 20;t0 5 1 20;t0 5 1 20;");
        row(x, 0, 14, new int[] {1, 2, 3, 4, 5, 0}, new int[6]);
        x = c.land("p1;f0 5 0;t0 99 9 0;t0 5 1 20;t0 5 1 20;t0 5 1 20;t0 5 1 20;t0 5 1 20;");
        row(x, 0, 5, new int[] {1, 2, 3, 4, 5}, new int[5]);
    }

    private static void plansOfLikeWorth() {
        SevenBlows x = c.land("p1;f0 5 0;t0 5 0 1;t0 5 7 1;t0 5 0 1;t0 5 0 1;");
        row(x, 0, 7, new int[] {0, 1}, new int[2]);
        x = c.land("p1;f0 5 0;t0 5 0 1;t0 5 0 1;");
        row(x, 0, 0, new int[] {}, new int[0]);
        x = c.land("p1;f0 5 0;t0 5 1 1;t0 6 7 1;t0 5 0 3;t0 5 1 1;t0 9 0 0;r1 1 3;");
        row(x, 0, 9, new int[] {0, 2, 1, 3}, new int[] {0, 0, 1, 0});
    }

    private static void plansOfLeastSets() {
        SevenBlows x = c.land("p1;f0 5 0;t0 50 5 0;r0 44 0;r0 20 0;r0 25 0;r0 99 0;");
        row(x, 0, 5, new int[] {0}, new int[] {3});
        x.attempt(0, 0, 1);
        row(x, 0, 5, new int[] {0}, new int[] {6});
        x.attempt(0, 0, 2);
        row(x, 0, 5, new int[] {0}, new int[] {8});
        x.attempt(0, 0, 4);
        row(x, 0, 5, new int[] {0}, new int[] {8});
    }

    private static void plansRefused() {
        SevenBlows x = c.land(TEXT);
        c.due("plan of nobody", Checks.UNKNOWN, x.plan(4, 0, 9));
        c.due("plan of -1", Checks.UNKNOWN, x.plan(-1, 0, 0));
        c.due("plan what 2", Checks.OUTSIDE, x.plan(0, 0, 2));
        c.due("plan what -1", Checks.OUTSIDE, x.plan(0, 0, -1));
        c.due("plan worth what 2", Checks.OUTSIDE, x.plan(0, Checks.NONE, 2));
        c.due("plan far what 2", Checks.OUTSIDE, x.plan(0, 100, 2));
        c.due("plan i -2 what 2", Checks.OUTSIDE, x.plan(0, -2, 2));
        c.due("plan i -2 of nobody", Checks.UNKNOWN, x.plan(4, -2, 0));
    }

    private static void stops() {
        SevenBlows x = c.land(TEXT);
        int[] due = {1, 2, 1, 1};
        for (int f = 0; f < 4; f++) {
            c.due("stops " + f, due[f], x.stops(f));
        }
        c.due("stops nobody", Checks.UNKNOWN, x.stops(4));
        c.due("stops -1", Checks.UNKNOWN, x.stops(-1));
        x = c.land("p1;f0 5 0;f4 99 0;t0 5 0 9;t0 10 0 0;e0 0 2;");
        c.due("nothing", Checks.NONE, x.stops(0));
        c.due("retired", 0, x.stops(1));
        x.attempt(0, 0, 0);
        x.inspect(0, 0);
        c.due("done does not stop", 1, x.stops(0));
        c.due("no tasks", Checks.NONE, c.land("p1;f4 0 0;").stops(0));
    }

    private static void belts(SevenBlows x, int rounds, int[] due) {
        String before = Checks.all(x);
        c.due("rounds", rounds, x.write(Checks.NONE));
        for (int f = 0; f < due.length; f++) {
            c.due("writes " + f, due[f], x.write(f));
        }
        c.due("nobody writes", Checks.UNKNOWN, x.write(due.length));
        c.due("-2 writes", Checks.UNKNOWN, x.write(-2));
        c.holds("nothing is written", before.equals(Checks.all(x)));
    }

    private static void writes() {
        belts(c.land("p2;f0 0 99;"), 1, new int[] {0});
        belts(c.land("p2;f0 0 0;"), 0, new int[] {0});
        belts(c.land("p2;f4 50 40;f1 99 7;e0 1 15;"), 1, new int[] {20, 0});
        belts(c.land("p1;f0 0 0;f1 0 0;e0 1 39;"), 0, new int[] {0, 0});
        belts(c.land("p1;f0 0 0;f1 0 0;e0 1 29;"), 1, new int[] {30, 0});
        belts(c.land("p1;f0 9 0;f1 0 0;e0 1 37;"), 1, new int[] {40, 0});
        belts(c.land("p1;f0 9 0;f1 0 0;e0 1 40;"), 0, new int[] {0, 0});
        belts(c.land("p2;f2 99 0;f1 0 0;e0 1 60;e1 1 89;"), 1, new int[] {60, 0});
        belts(c.land("p1;f0 90 0;f0 0 50;e0 1 30;"), 2, new int[] {40, 0});
        belts(c.land("p6;f1 0 50;f1 0 7;"), 1, new int[] {0, 0});
        belts(c.land("p1;f0 90 0;f1 0 0;e0 1 80;"), 1, new int[] {90, 0});
        belts(c.land("p1;f0 99 0;f1 0 0;e0 1 90;"), 0, new int[] {0, 0});
        belts(c.land("p2;f0 0 0;f1 0 0;e0 1 69;e1 1 69;"), 0, new int[] {0, 0});
        belts(c.land("p2;f0 1 0;f1 0 0;e0 1 69;e1 1 69;"), 1, new int[] {70, 0});
        belts(c.land("p3;f0 0 20;f1 0 0;e0 1 10;e1 1 60;e2 1 80;"), 0, new int[] {20, 0});
        belts(c.land("p4;f0 44 95;f0 37 82;f0 74 83;e2 0 82;e3 2 40;"), 4, new int[] {0, 0, 90});
    }

    /** Two who outdo each other by tens, till it is too dear, and then fall back, never come to rest. */
    private static void writesWithoutRest() {
        SevenBlows x = c.land("p1;f0 0 0;f0 0 0;");
        c.due("never rests", Checks.NONE, x.write(Checks.NONE));
        c.due("never rests 0", Checks.NONE, x.write(0));
        c.due("never rests 1", Checks.NONE, x.write(1));
        c.due("nobody", Checks.UNKNOWN, x.write(2));
    }

    private static void tells() {
        SevenBlows x = c.land("p1;f0 10 60;f2 20 40;f3 30 60;f4 40 60;f1 0 60;");
        int[][] due = {{60, 0, 1, 1}, {60, 10, 1, 1}, {60, 11, 3, 4}, {60, 20, 3, 4}, {60, 21, 1, 2}, {60, 30, 1, 2}, {60, 31, 1, 4},
            {60, 41, 0, 1}, {60, 99, 0, 1}, {40, 0, 0, 1}, {0, 0, 1, 1}, {0, 1, 0, 1}, {99, 0, 0, 1}};
        for (int i = 0; i < due.length; i++) {
            c.due("tells above " + i, due[i][2], x.tells(due[i][0], due[i][1], 0));
            c.due("tells below " + i, due[i][3], x.tells(due[i][0], due[i][1], 1));
        }
        int[][] outside = {{-1, 0, 0}, {100, 0, 0}, {0, -1, 0}, {0, 100, 0}, {0, 0, -1}, {0, 0, 2}};
        for (int i = 0; i < outside.length; i++) {
            c.due("tells outside " + i, Checks.OUTSIDE, x.tells(outside[i][0], outside[i][1], outside[i][2]));
        }
    }

    private static void words() {
        SevenBlows x = c.land("p1;f0 12 70;f1 80 99;f2 30 40;f0 0 60;f0 1 99;");
        c.due("0 hears 0, 1 hears 70", 0, x.words(0, 1));
        c.due("0 hears 60, 2 hears 70", 5 + 5, x.words(0, 2));
        c.due("2 and 0", 10, x.words(2, 0));
        c.due("0 hears 99, 4 hears 70", 9 + 7, x.words(0, 4));
        c.due("2 hears 99, 4 hears 60", 7 + 6, x.words(4, 2));
        c.due("no strength", Checks.NONE, x.words(0, 3));
        c.due("no strength either", Checks.NONE, x.words(3, 0));
        x.belt(4, 12);
        c.due("as much is too much", 1 + 7, x.words(0, 4));
        x.belt(4, 11);
        c.due("less", 7, x.words(0, 4));
        c.due("one twice", Checks.UNKNOWN, x.words(1, 1));
        c.due("nobody", Checks.UNKNOWN, x.words(5, 1));
        c.due("-1", Checks.UNKNOWN, x.words(-1, 1));
        c.due("with nobody", Checks.UNKNOWN, x.words(1, 5));
        c.due("with -1", Checks.UNKNOWN, x.words(3, -1));
    }

    private static void hires() {
        SevenBlows x = c.land("p3;f0 1 1;f0 1 1;f0 1 1;f0 1 1;e0 0 50;e1 0 50;e2 0 20;e0 1 99;e1 1 0;e2 1 0;e1 2 7;e2 2 30;e1 3 4;");
        int[][] due = {{0, 50}, {Checks.NONE, Checks.NONE}, {2, 7}, {1, 0}};
        for (int f = 0; f < 4; f++) {
            c.due("hires " + f, due[f][0], x.hire(f, 0));
            c.due("pays " + f, due[f][1], x.hire(f, 1));
        }
        c.due("hire of nobody", Checks.UNKNOWN, x.hire(4, 9));
        c.due("hire of -1", Checks.UNKNOWN, x.hire(-1, 0));
        c.due("hire what 2", Checks.OUTSIDE, x.hire(0, 2));
        c.due("hire what -1", Checks.OUTSIDE, x.hire(1, -1));
        x = c.land("p2;f0 9 9;e1 0 1;");
        c.due("for 1", 1, x.hire(0, 0));
        c.due("for 0", 0, x.hire(0, 1));
        x = c.land("p6;" + "f0 9 9;".repeat(5) + "e5 4 9;e4 4 8;e3 3 5;e4 2 7;e2 2 7;e3 1 6;");
        c.due("the last is hired", 5, x.hire(4, 0));
        c.due("by the last", 8, x.hire(4, 1));
        c.due("like bids", 2, x.hire(2, 0));
        c.due("of another", 7, x.hire(2, 1));
        x = c.land("p2;f0 1 1;f0 1 1;f0 1 1;e1 0 9;e0 1 8;e0 2 99;e1 2 98;");
        c.due("others bid 0", 1, x.hire(0, 0));
        c.due("pays 0", 0, x.hire(0, 1));
        c.due("alone", 0, x.hire(1, 0));
        c.due("pays 0, too", 0, x.hire(1, 1));
        c.due("all have hired", Checks.NONE, x.hire(2, 0));
        c.due("nobody pays", Checks.NONE, x.hire(2, 1));
    }

    private static void saw() {
        SevenBlows x = c.land(TEXT);
        x.read(1, 0);
        x.attempt(0, 1, 1);
        both(x, 1, 0, 1, 2);
        both(x, 0, 0, 1, 2);
        both(x, 3, 0, 0, 0);
        x.attempt(0, 0, 0);
        both(x, 1, 0, 1, 3);
        both(x, 2, 1, 2, 0);
        x = c.land("p1;f0 50 30;t0 0 0 20;t0 0 0 10;t0 0 0 0;t0 0 0 10;t0 0 0 20;");
        both(x, 0, 0, 1, 0);
        for (int t = 0; t < 4; t++) {
            x.attempt(0, t, 0);
        }
        both(x, 0, 0, 2 + 4, 0);
        x.belt(0, 60);
        both(x, 0, 0, 2, 11);
        x.inspect(0, 0);
        both(x, 0, 0, 0, 0);
        x.belt(0, 90);
        x.read(0, 0);
        both(x, 0, 0, 2, 0);
        x.attempt(0, 4, 0);
        both(x, 0, 0, 2 * 15, 0);
        c.due("saw by nobody", Checks.UNKNOWN, x.saw(1, 0, 9));
        c.due("saw by -1", Checks.UNKNOWN, x.saw(-1, 0, 0));
        c.due("saw nobody", Checks.UNKNOWN, x.saw(0, 1, 0));
        c.due("saw -1", Checks.UNKNOWN, x.saw(0, -1, 0));
        c.due("saw what 2", Checks.OUTSIDE, x.saw(0, 0, 2));
        c.due("saw what -1", Checks.OUTSIDE, x.saw(0, 0, -1));
    }

    private static void both(SevenBlows x, int p, int f, int ways, int sure) {
        c.due("ways " + p + " " + f, ways, x.saw(p, f, 0));
        c.due("sure " + p + " " + f, sure, x.saw(p, f, 1));
    }

    private static void hides() {
        int[] by33 = {670000000, 448900000, 300763000, 201511210, 135012510, 90458381, 60607115, 40606767, 27206533};
        for (int n = 1; n <= 9; n++) {
            SevenBlows x = new SevenBlows();
            c.due("hides " + n, by33[n - 1], x.hides(n, 33));
            c.due("never found", 1000000000, x.hides(n, 0));
            c.due("always found", 0, x.hides(n, 100));
        }
        SevenBlows x = new SevenBlows();
        c.due("99 of 100, 4", 10, x.hides(4, 99));
        c.due("99 of 100, 5", 0, x.hides(5, 99));
        c.due("nobody inspects", Checks.OUTSIDE, x.hides(0, 5));
        c.due("ten inspect", Checks.OUTSIDE, x.hides(10, 5));
        c.due("by -1", Checks.OUTSIDE, x.hides(1, -1));
        c.due("by 101", Checks.OUTSIDE, x.hides(1, 101));
    }
}
