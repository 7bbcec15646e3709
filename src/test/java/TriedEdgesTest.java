/** The edges of promises 17 to 24: PLAN, STOPS, WRITE, TELLS, WORDS, HIRE, SAW, FOUND OUT. */
public final class TriedEdgesTest {
    private static final Checks c = new Checks();

    public static void main(String[] args) {
        planOfNothing();
        planIndexEnds();
        planOfSix();
        planPassesJustSo();
        planFameJustEnough();
        planFame99AtMost();
        planLeavesOutTheRest();
        planFirstOfLikeOnes();
        planEndsAhead();
        planLeastSet();
        planWithoutUsedTricks();
        planOfRetired();
        stopsNone();
        stopsAtTheLeast();
        stopsAtTheLast();
        writeOfNobody();
        writeAlone();
        writeUpTo90();
        writeMoreThanAnyOther();
        writeLessForEachTen();
        writeTheLeastOfLikeOnes();
        writeRounds();
        writeNeverRests();
        tellsOfNobody();
        tellsAtTheEnds();
        tellsInLowestTerms();
        wordsNone();
        wordsJustSo();
        wordsTo0AtLeast();
        wordsOfTheOtherOnesBelt();
        hireByNobody();
        hireLikeBids();
        hireSecondBid();
        hireOnceEach();
        sawNothing();
        saw99AtMost();
        sawBeltOrNot();
        sawSure();
        sawByTheLast();
        hidesAtTheEnds();
        hidesCuts();
        c.end();
    }

    // ---- promise 17

    private static void plan(SevenBlows x, int f, int worth, int[] tasks, int[] sets) {
        c.due("P17: V of " + f, worth, x.plan(f, Checks.NONE, 0));
        c.due("P17: V of " + f + ", what 1", worth, x.plan(f, Checks.NONE, 1));
        for (int i = 0; i < tasks.length; i++) {
            c.due("P17: TASK " + i + " of " + f, tasks[i], x.plan(f, i, 0));
            c.due("P17: SET " + i + " of " + f, sets[i], x.plan(f, i, 1));
        }
        c.due("P17: no TASK " + tasks.length + " of " + f, Checks.NONE, x.plan(f, tasks.length, 0));
        c.due("P17: no SET " + tasks.length + " of " + f, Checks.NONE, x.plan(f, tasks.length, 1));
    }

    private static void noPlan(SevenBlows x, int f) {
        plan(x, f, 0, new int[0], new int[0]);
    }

    private static void planOfNothing() {
        noPlan(c.land("p1;f0 99 99;"), 0);
        noPlan(c.land("p1;f0 9 99;t0 10 5 5;e0 0 10;"), 0);
        SevenBlows x = c.land("p1;f0 9 99;t0 9 5 5;t0 1 5 5;");
        x.attempt(0, 0, 0);
        x.attempt(0, 1, 0);
        noPlan(x, 0);
        c.due("P17: nobody", Checks.UNKNOWN, new SevenBlows().plan(0, Checks.NONE, 0));
    }

    private static void planIndexEnds() {
        SevenBlows x = c.land("p1;f0 9 0;t0 9 5 0;t0 9 6 0;");
        int[] beyond = {2, 3, 6, 31, Integer.MAX_VALUE, -2, -3, Checks.UNKNOWN, Integer.MIN_VALUE};
        for (int i : beyond) {
            c.due("P17: not so many as " + i, Checks.NONE, x.plan(0, i, 0));
            c.due("P17: not so many as " + i + ", what 1", Checks.NONE, x.plan(0, i, 1));
        }
        c.due("P17: the first", 0, x.plan(0, 0, 0));
        c.due("P17: the last", 1, x.plan(0, 1, 0));
        for (int i : new int[] {Checks.NONE, 0, 1, 2, -2, Integer.MAX_VALUE}) {
            c.due("P17: what -1 of " + i, Checks.OUTSIDE, x.plan(0, i, -1));
            c.due("P17: what 2 of " + i, Checks.OUTSIDE, x.plan(0, i, 2));
            c.due("P17: UNKNOWN ahead of OUTSIDE of " + i, Checks.UNKNOWN, x.plan(1, i, 2));
        }
    }

    private static void planOfSix() {
        SevenBlows x = c.land("p1;f0 9 0;" + "t0 9 99 0;".repeat(6));
        plan(x, 0, 6 * 99, new int[] {0, 1, 2, 3, 4, 5}, new int[6]);
        x = c.land("p1;f0 5 0;t0 99 1 0;t0 94 2 20;t0 74 4 20;t0 54 8 20;t0 34 16 20;t0 5 32 20;e0 0 15;");
        plan(x, 0, 62, new int[] {5, 4, 3, 2, 1}, new int[5]);
        x.belt(0, 20);
        plan(x, 0, 62, new int[] {5, 4, 3, 2, 1}, new int[5]);
        x = c.land("p1;f0 5 0;t0 98 1 0;t0 94 2 20;t0 74 4 20;t0 54 8 20;t0 34 16 20;t0 5 32 20;e0 0 15;");
        plan(x, 0, 63, new int[] {5, 4, 3, 2, 1, 0}, new int[6]);
    }

    private static void planPassesJustSo() {
        plan(c.land("p1;f0 50 0;t0 50 3 0;"), 0, 3, new int[] {0}, new int[1]);
        noPlan(c.land("p1;f0 49 0;t0 50 3 0;"), 0);
        plan(c.land("p1;f0 0 0;t0 50 3 0;e0 0 51;"), 0, 3, new int[] {0}, new int[1]);
        noPlan(c.land("p1;f0 0 0;t0 50 3 0;e0 0 50;"), 0);
        plan(c.land("p1;f0 20 0;t0 50 3 0;r0 30 7;e0 0 7;"), 0, 3, new int[] {0}, new int[] {1});
        noPlan(c.land("p1;f0 20 0;t0 50 3 0;r0 30 7;e0 0 6;"), 0);
        noPlan(c.land("p1;f0 20 0;t0 50 3 0;r0 29 7;e0 0 7;"), 0);
    }

    private static void planFameJustEnough() {
        plan(c.land("p1;f0 0 0;t0 20 3 0;t0 0 4 20;e0 0 1;"), 0, 7, new int[] {1, 0}, new int[2]);
        plan(c.land("p1;f0 0 0;t0 20 3 0;t0 0 4 20;"), 0, 4, new int[] {1}, new int[1]);
        plan(c.land("p1;f0 0 0;t0 50 3 0;t0 0 4 20;r0 50 20;"), 0, 7, new int[] {1, 0}, new int[] {0, 1});
        plan(c.land("p1;f0 0 0;t0 50 3 0;t0 0 4 20;r0 50 21;"), 0, 4, new int[] {1}, new int[1]);
        plan(c.land("p2;f0 0 0;t1 30 3 0;t0 0 4 15;t0 0 5 15;e1 0 1;"), 0, 12, new int[] {1, 2, 0}, new int[3]);
        plan(c.land("p2;f0 0 0;t1 30 3 0;t0 0 4 15;t0 0 5 15;e0 0 1;"), 0, 9, new int[] {1, 2}, new int[2]);
    }

    private static void planFame99AtMost() {
        plan(c.land("p1;f0 0 0;t0 99 3 0;t0 0 4 20;e0 0 99;"), 0, 4, new int[] {1}, new int[1]);
        plan(c.land("p1;f0 0 0;t0 98 3 0;t0 0 4 1;e0 0 98;"), 0, 7, new int[] {1, 0}, new int[2]);
        plan(c.land("p1;f0 0 0;t0 98 3 0;t0 0 4 20;e0 0 98;"), 0, 7, new int[] {1, 0}, new int[2]);
        plan(c.land("p1;f0 0 0;t0 99 3 0;t0 0 4 20;r0 99 99;e0 0 80;"), 0, 7, new int[] {1, 0}, new int[] {0, 1});
    }

    private static void planLeavesOutTheRest() {
        SevenBlows x = c.land("p2;f0 5 90;c0 1;t0 50 3 0;e1 0 80;");
        noPlan(x, 0);
        c.due("P17: by a RUMOUR he would", 1, x.rumour(0));
        plan(x, 0, 3, new int[] {0}, new int[1]);
    }

    private static void planFirstOfLikeOnes() {
        plan(c.land("p1;f0 5 0;t0 5 1 0;t0 5 99 0;"), 0, 100, new int[] {0, 1}, new int[2]);
        plan(c.land("p1;f0 5 0;t0 9 1 0;t0 5 2 9;t0 5 2 9;e0 0 1;"), 0, 5, new int[] {1, 0, 2}, new int[3]);
        plan(c.land("p1;f0 5 0;t0 9 1 0;t0 5 2 8;t0 5 2 9;e0 0 1;"), 0, 5, new int[] {1, 2, 0}, new int[3]);
        plan(c.land("p1;f0 5 0;t0 5 0 0;t0 5 7 0;"), 0, 7, new int[] {0, 1}, new int[2]);
    }

    private static void planEndsAhead() {
        plan(c.land("p1;f0 5 0;t0 5 7 0;t0 5 0 0;"), 0, 7, new int[] {0}, new int[1]);
        plan(c.land("p1;f0 5 0;t0 5 7 0;t0 5 0 0;t0 5 1 0;"), 0, 8, new int[] {0, 1, 2}, new int[3]);
        noPlan(c.land("p1;f0 5 0;t0 5 0 9;"), 0);
        noPlan(c.land("p1;f0 5 0;" + "t0 0 0 0;".repeat(6)), 0);
    }

    private static void planLeastSet() {
        plan(c.land("p1;f0 5 0;t0 5 3 0;r0 1 0;"), 0, 3, new int[] {0}, new int[] {0});
        plan(c.land("p1;f0 5 0;t0 6 3 0;r0 1 0;r0 1 0;"), 0, 3, new int[] {0}, new int[] {1});
        plan(c.land("p1;f0 5 0;t0 20 3 0;r0 14 0;r0 14 0;r0 15 0;r0 15 0;"), 0, 3, new int[] {0}, new int[] {3});
        plan(c.land("p1;f0 5 0;t0 20 3 0;r0 1 0;r0 1 0;r0 1 0;r0 15 0;"), 0, 3, new int[] {0}, new int[] {8});
        plan(c.land("p1;f0 5 0;t0 20 3 0;r0 4 0;r0 4 0;r0 4 0;r0 3 0;"), 0, 3, new int[] {0}, new int[] {15});
        plan(c.land("p1;f0 5 0;t0 20 3 0;t0 20 4 0;r1 15 0;r0 15 0;"), 0, 7, new int[] {0, 1}, new int[] {2, 1});
        plan(c.land("p1;f0 5 0;t0 20 3 0;r0 15 9;r0 15 0;"), 0, 3, new int[] {0}, new int[] {2});
    }

    private static void planWithoutUsedTricks() {
        SevenBlows x = c.land("p1;f0 5 0;f0 5 0;t0 20 3 0;r0 15 0;r0 14 0;r0 1 0;");
        x.attempt(0, 0, 2);
        plan(x, 0, 3, new int[] {0}, new int[] {1});
        plan(x, 1, 3, new int[] {0}, new int[] {1});
        x = c.land("p1;f0 5 0;f0 5 0;t0 20 3 0;r0 14 0;r0 1 0;");
        x.attempt(0, 0, 2);
        noPlan(x, 0);
        plan(x, 1, 3, new int[] {0}, new int[] {3});
    }

    private static void planOfRetired() {
        SevenBlows x = c.land("p1;f4 99 99;t0 0 9 9;e0 0 99;");
        noPlan(x, 0);
        c.due("P18: what stops him", 0, x.stops(0));
    }

    // ---- promise 18

    private static void stopsNone() {
        c.due("P18: no TASK", Checks.NONE, c.land("p1;f0 0 0;").stops(0));
        c.due("P18: no TASK, retired", Checks.NONE, c.land("p1;f4 0 0;").stops(0));
        c.due("P18: all may be passed", Checks.NONE, c.land("p1;f0 9 0;t0 9 0 0;t0 9 0 0;").stops(0));
        SevenBlows x = c.land("p1;f0 9 0;t0 10 1 0;e0 0 11;");
        x.attempt(0, 0, 0);
        x.inspect(0, 0);
        c.due("P18: all are done", Checks.NONE, x.stops(0));
    }

    private static void stopsAtTheLeast() {
        SevenBlows x = c.land("p1;f0 9 0;f0 9 0;t0 9 1 0;t0 10 1 0;t0 11 1 0;e0 0 11;");
        x.attempt(0, 1, 0);
        x.inspect(0, 0);
        c.due("P18: done by him, not the least", 2, x.stops(0));
        c.due("P18: done by another", 1, x.stops(1));
        x = c.land("p1;f0 9 0;t0 10 1 0;t0 0 0 1;e0 0 10;");
        c.due("P18: a row passes it, worth nothing", Checks.NONE, x.stops(0));
        x = c.land("p1;f0 9 0;t0 10 1 0;t0 0 0 1;e0 0 9;");
        c.due("P18: no row passes it", 0, x.stops(0));
    }

    private static void stopsAtTheLast() {
        SevenBlows x = c.land("p1;f0 9 0;" + "t0 9 1 0;".repeat(5) + "t0 10 1 0;");
        c.due("P18: the sixth", 5, x.stops(0));
        x = c.land("p1;f0 9 0;" + "t0 10 1 0;".repeat(6));
        c.due("P18: the first of six", 0, x.stops(0));
        x = c.land("p1;f0 9 0;t0 10 1 0;r0 1 0;");
        c.due("P18: not with a TRICK", Checks.NONE, x.stops(0));
        x = c.land("p1;f0 9 0;t0 11 1 0;r0 1 0;");
        x.attempt(0, 0, 1);
        c.due("P18: used ones do not help", 0, x.stops(0));
    }

    // ---- promise 19

    private static void writes(String text, int rounds, int... due) {
        SevenBlows x = c.land(text);
        String before = Checks.all(x);
        c.due("P19: rounds of " + text, rounds, x.write(Checks.NONE));
        for (int f = 0; f < due.length; f++) {
            c.due("P19: BELT " + f + " of " + text, due[f], x.write(f));
        }
        c.due("P19: FIGHTER " + due.length + " of " + text, Checks.UNKNOWN, x.write(due.length));
        c.same("P19: nothing changes by " + text, before, Checks.all(x));
    }

    private static void writeOfNobody() {
        SevenBlows x = new SevenBlows();
        c.due("P19: nobody writes", 0, x.write(Checks.NONE));
        c.due("P19: no FIGHTER 0", Checks.UNKNOWN, x.write(0));
        writes("p6;", 0);
        for (int f : new int[] {-2, 1, Integer.MIN_VALUE, Integer.MAX_VALUE}) {
            c.due("P19: FIGHTER " + f, Checks.UNKNOWN, c.land("p1;f0 1 1;").write(f));
        }
    }

    private static void writeAlone() {
        writes("p6;f0 0 0;", 0, 0);
        writes("p6;f0 0 1;", 1, 0);
        writes("p6;f0 99 10;", 1, 0);
        writes("p6;f1 99 90;", 1, 0);
        writes("p6;f0 0 99;e0 0 99;", 1, 0);
    }

    private static void writeUpTo90() {
        writes("p1;f0 81 0;f1 0 0;e0 1 89;", 1, 90, 0);
        writes("p1;f0 99 0;f1 0 0;e0 1 90;", 0, 0, 0);
        writes("p1;f2 99 0;f1 0 0;e0 1 90;", 1, 70, 0);
        writes("p1;f2 99 0;f1 0 0;e0 1 98;", 1, 70, 0);
        writes("p1;f2 99 0;f1 0 0;e0 1 99;", 0, 0, 0);
        writes("p1;f0 99 99;f1 0 0;e0 1 89;", 1, 90, 0);
    }

    private static void writeMoreThanAnyOther() {
        writes("p1;f0 99 0;f1 0 0;e0 1 19;", 1, 20, 0);
        writes("p1;f0 99 0;f1 0 0;e0 1 20;", 1, 30, 0);
        writes("p1;f0 99 0;f1 0 0;e0 1 20;e0 0 20;", 1, 30, 0);
        writes("p1;f0 99 0;f1 0 0;e0 1 20;e0 0 21;", 0, 0, 0);
        writes("p1;f0 99 0;f1 0 0;f1 0 0;e0 1 19;e0 2 20;", 1, 30, 0, 0);
        writes("p1;f1 99 0;f0 99 50;", 1, 0, 10);
        writes("p2;f1 9 0;f1 9 0;e0 0 5;e1 1 5;", 0, 0, 0);
    }

    private static void writeLessForEachTen() {
        writes("p1;f0 31 0;f1 0 0;e0 1 69;", 1, 70, 0);
        writes("p1;f0 30 0;f1 0 0;e0 1 69;", 0, 0, 0);
        writes("p2;f0 1 0;f1 0 0;e0 1 69;e1 1 69;", 1, 70, 0);
        writes("p2;f0 0 0;f1 0 0;e0 1 69;e1 1 69;", 0, 0, 0);
        writes("p1;f2 21 0;f1 0 0;e0 1 59;", 1, 40, 0);
        writes("p1;f2 20 0;f1 0 0;e0 1 59;", 0, 0, 0);
        writes("p2;f0 1 0;f1 0 0;e0 1 9;e1 1 39;", 1, 40, 0);
        writes("p2;f0 11 0;f1 0 0;e0 1 9;e1 1 49;", 1, 50, 0);
        writes("p2;f0 0 0;f1 0 0;e0 1 9;e1 1 49;", 1, 10, 0);
    }

    private static void writeTheLeastOfLikeOnes() {
        writes("p1;f0 99 90;f1 0 0;e0 1 9;", 1, 10, 0);
        writes("p1;f1 99 90;f1 0 0;e0 0 9;", 1, 0, 0);
        writes("p2;f0 0 0;f1 0 0;e0 1 9;e1 1 9;", 1, 10, 0);
        writes("p1;f0 20 0;f1 0 0;e0 1 29;", 1, 30, 0);
    }

    private static void writeRounds() {
        writes("p1;f0 5 0;f1 5 0;e0 1 9;e0 0 10;", 0, 0, 0);
        writes("p1;f0 90 50;f0 0 50;e0 0 60;", 1, 0, 0);
        writes("p1;f0 90 0;f0 0 50;e0 1 30;", 2, 40, 0);
        writes("p1;f2 6 10;f0 0 50;f0 0 0;e0 1 25;", 3, 20, 0, 0);
        writes("p4;f0 44 95;f0 37 82;f0 74 83;e2 0 82;e3 2 40;", 4, 0, 0, 90);
        writes("p3;f2 9 40;f2 14 48;f2 84 0;f2 95 84;e0 0 43;e0 1 7;e0 2 51;e0 3 2;e1 0 71;e1 1 16;e1 2 62;e1 3 92;e2 3 23;",
            5, 0, 0, 70, 0);
        writes("p2;f2 52 70;f2 41 45;f2 98 80;f2 32 72;f0 77 60;e0 0 72;e0 1 61;e0 2 39;e0 3 4;e0 4 91;e1 3 20;e1 4 46;",
            6, 0, 0, 70, 0, 0);
        writes("p1;f0 56 11;f2 58 80;f0 80 90;f0 81 70;f0 98 84;e0 2 33;e0 3 75;e0 4 75;", 7, 0, 60, 0, 0, 0);
        writes("p1;f0 78 98;f2 54 70;f0 86 90;f0 85 80;f0 72 70;e0 0 19;e0 1 78;e0 3 73;e0 4 78;", 7, 0, 60, 0, 0, 0);
    }

    private static void writeNeverRests() {
        int none = Checks.NONE;
        writes("p1;f0 0 0;f0 0 0;", none, none, none);
        writes("p1;f0 99 10;f0 99 20;", none, none, none);
        writes("p6;" + "f0 99 0;".repeat(5), none, none, none, none, none, none);
    }

    // ---- promise 20

    private static void part(SevenBlows x, int b, int s, int above, int below) {
        c.due("P20: above of " + b + ", " + s, above, x.tells(b, s, 0));
        c.due("P20: below of " + b + ", " + s, below, x.tells(b, s, 1));
    }

    private static void tellsOfNobody() {
        SevenBlows x = new SevenBlows();
        part(x, 0, 0, 0, 1);
        part(x, 99, 99, 0, 1);
        x = c.land("p1;f0 98 50;f0 99 50;");
        part(x, 49, 0, 0, 1);
        part(x, 51, 0, 0, 1);
        part(x, 0, 0, 0, 1);
        part(x, 50, 99, 1, 2);
        x.belt(1, 51);
        part(x, 50, 99, 0, 1);
        part(x, 50, 98, 1, 1);
    }

    private static void tellsAtTheEnds() {
        SevenBlows x = c.land("p1;f0 0 0;f1 99 99;f2 50 66;f0 99 99;f4 3 0;");
        part(x, 0, 0, 1, 1);
        part(x, 0, 3, 2, 3);
        part(x, 0, 4, 1, 3);
        part(x, 0, 99, 1, 3);
        part(x, 99, 0, 1, 1);
        part(x, 99, 50, 1, 1);
        part(x, 99, 51, 1, 2);
        part(x, 99, 99, 1, 2);
        part(x, 98, 0, 0, 1);
        part(x, 66, 0, 0, 1);
        int[][] outside = {{-1, 0, 0}, {100, 0, 0}, {0, -1, 0}, {0, 100, 0}, {0, 0, -1}, {0, 0, 2}, {100, 100, 2}};
        for (int[] o : outside) {
            c.due("P20: outside " + o[0] + " " + o[1] + " " + o[2], Checks.OUTSIDE, x.tells(o[0], o[1], o[2]));
            c.due("P20: outside of nobody", Checks.OUTSIDE, new SevenBlows().tells(o[0], o[1], o[2]));
        }
    }

    private static void tellsInLowestTerms() {
        int[][] lowest = {{0, 1}, {1, 5}, {2, 5}, {3, 5}, {4, 5}, {1, 1}};
        for (int strong = 0; strong <= 5; strong++) {
            SevenBlows x = c.land("p1;" + "f0 40 7;".repeat(strong) + "f0 39 7;".repeat(5 - strong));
            part(x, 7, 40, lowest[strong][0], lowest[strong][1]);
        }
        part(c.land("p1;f0 40 7;f0 40 7;f0 39 7;f0 39 7;"), 7, 40, 1, 2);
        part(c.land("p1;f0 40 7;f0 39 7;f0 39 7;f0 39 7;"), 7, 40, 1, 4);
        part(c.land("p1;f0 40 7;f0 40 7;f0 40 7;f0 39 7;"), 7, 40, 3, 4);
        part(c.land("p1;f0 40 7;f0 40 7;f0 40 7;f0 40 7;"), 7, 40, 1, 1);
        part(c.land("p1;f0 40 7;f0 40 7;f0 39 7;f0 40 8;"), 7, 40, 2, 3);
    }

    // ---- promise 21

    private static void words(String text, int due) {
        SevenBlows x = c.land(text);
        c.due("P21: words in " + text, due, x.words(0, 1));
        c.due("P21: the other way round in " + text, due, x.words(1, 0));
    }

    private static void wordsNone() {
        words("p1;f0 0 0;f0 5 0;", Checks.NONE);
        words("p1;f0 5 0;f0 0 0;", Checks.NONE);
        words("p1;f0 0 0;f0 0 0;", Checks.NONE);
        words("p1;f1 0 99;f1 99 99;", Checks.NONE);
        words("p1;f0 1 0;f0 1 0;", 0);
        SevenBlows x = c.land("p1;f0 5 0;f0 0 0;");
        c.due("P21: one twice", Checks.UNKNOWN, x.words(0, 0));
        c.due("P21: one twice, of STRENGTH 0", Checks.UNKNOWN, x.words(1, 1));
        c.due("P21: no FIGHTER 2", Checks.UNKNOWN, x.words(0, 2));
        c.due("P21: no FIGHTER 2, STRENGTH 0", Checks.UNKNOWN, x.words(2, 1));
        c.due("P21: no FIGHTER -1", Checks.UNKNOWN, x.words(-1, 0));
        c.due("P21: one that there is not twice", Checks.UNKNOWN, x.words(5, 5));
    }

    private static void wordsJustSo() {
        words("p1;f0 50 0;f0 50 49;", 0);
        words("p1;f0 50 0;f0 50 50;", 1);
        words("p1;f0 50 0;f0 50 51;", 1);
        words("p1;f0 50 0;f0 50 59;", 1);
        words("p1;f0 50 0;f0 50 60;", 2);
        words("p1;f0 50 0;f0 50 99;", 5);
        words("p1;f0 50 50;f0 50 60;", 3);
        words("p1;f0 99 99;f0 99 99;", 2);
        words("p1;f0 99 98;f0 99 98;", 0);
        words("p1;f1 50 99;f2 50 40;", 2);
        words("p1;f3 50 60;f4 50 70;", 5);
    }

    private static void wordsTo0AtLeast() {
        words("p1;f0 1 0;f0 1 1;", 1);
        words("p1;f0 1 0;f0 1 5;", 1);
        words("p1;f0 1 0;f0 1 10;", 1);
        words("p1;f0 1 0;f0 1 11;", 2);
        words("p1;f0 1 0;f0 1 90;", 9);
        words("p1;f0 1 0;f0 1 91;", 10);
        words("p1;f0 1 99;f0 1 99;", 20);
    }

    private static void wordsOfTheOtherOnesBelt() {
        words("p1;f0 20 70;f0 80 30;", 2);
        words("p1;f0 20 30;f0 80 20;", 1);
        words("p1;f0 20 30;f0 80 19;", 0);
        words("p1;f0 20 89;f0 80 99;", 8 + 1);
        words("p1;f0 20 90;f0 80 99;", 8 + 2);
    }

    // ---- promise 22

    private static void hires(SevenBlows x, int f, int who, int pays) {
        c.due("P22: who hires " + f, who, x.hire(f, 0));
        c.due("P22: what he pays for " + f, pays, x.hire(f, 1));
    }

    private static void hireByNobody() {
        hires(c.land("p6;f0 99 99;"), 0, Checks.NONE, Checks.NONE);
        hires(c.land("p1;f0 99 99;"), 0, Checks.NONE, Checks.NONE);
        hires(c.land("p1;f0 9 9;f0 9 9;e0 0 1;e0 1 99;"), 1, Checks.NONE, Checks.NONE);
        c.due("P22: nobody to hire", Checks.UNKNOWN, c.land("p1;").hire(0, 0));
        SevenBlows x = c.land("p1;f0 9 9;");
        for (int what : new int[] {-1, 2, Integer.MIN_VALUE, Integer.MAX_VALUE}) {
            c.due("P22: what " + what, Checks.OUTSIDE, x.hire(0, what));
            c.due("P22: UNKNOWN ahead of OUTSIDE", Checks.UNKNOWN, x.hire(1, what));
        }
    }

    private static void hireLikeBids() {
        hires(c.land("p3;f0 9 9;e0 0 7;e1 0 7;e2 0 7;"), 0, 0, 7);
        hires(c.land("p3;f0 9 9;e0 0 6;e1 0 7;e2 0 7;"), 0, 1, 7);
        hires(c.land("p3;f0 9 9;e0 0 7;e1 0 8;e2 0 7;"), 0, 1, 7);
        hires(c.land("p6;f0 9 9;e5 0 99;e4 0 98;"), 0, 5, 98);
    }

    private static void hireSecondBid() {
        hires(c.land("p1;f0 9 9;e0 0 99;"), 0, 0, 0);
        hires(c.land("p1;f0 9 9;e0 0 1;"), 0, 0, 0);
        hires(c.land("p2;f0 9 9;e1 0 1;"), 0, 1, 0);
        hires(c.land("p2;f0 9 9;e1 0 2;e0 0 1;"), 0, 1, 1);
        hires(c.land("p3;f0 9 9;e0 0 9;e1 0 1;e2 0 8;"), 0, 0, 8);
    }

    private static void hireOnceEach() {
        SevenBlows x = c.land("p3;f0 9 9;f0 9 9;f0 9 9;f0 9 9;e0 0 5;e0 1 9;e1 1 4;e2 1 3;e0 2 9;e1 2 9;e2 2 1;e0 3 9;e1 3 9;e2 3 9;");
        hires(x, 3, Checks.NONE, Checks.NONE);
        hires(x, 2, 2, 0);
        hires(x, 1, 1, 3);
        hires(x, 0, 0, 0);
        x = c.land("p2;f0 9 9;f0 9 9;e0 1 4;e1 1 3;");
        hires(x, 0, Checks.NONE, Checks.NONE);
        hires(x, 1, 0, 3);
        x = c.land("p6;" + "f0 9 9;".repeat(5) + "e0 0 1;e1 1 1;e2 2 1;e3 3 1;e4 4 2;e5 4 2;");
        hires(x, 4, 4, 2);
    }

    // ---- promise 23

    private static void saw(String label, SevenBlows x, int ways, int sure) {
        c.due("P23: ways, " + label, ways, x.saw(0, 0, 0));
        c.due("P23: SURE, " + label, sure, x.saw(0, 0, 1));
    }

    private static void sawNothing() {
        saw("nothing was, nothing done", c.land("p1;f0 9 50;"), 1, 0);
        saw("he READ it, nothing done", c.land("p1;f0 9 50;e0 0 50;"), 1, 0);
        saw("one less", c.land("p1;f0 9 50;e0 0 49;"), 0, 0);
        saw("one more", c.land("p1;f0 9 50;e0 0 51;"), 0, 0);
        SevenBlows x = c.land("p1;f0 9 50;t0 1 1 5;");
        saw("a TASK not done", x, 1, 0);
        x.attempt(0, 0, 0);
        saw("a TASK done", x, 1, 1);
        x.read(0, 0);
        saw("he READ behind it", x, 1, 0);
        x.inspect(0, 0);
        saw("by no way", x, 0, 0);
        x = c.land("p1;f0 9 50;");
        for (int what : new int[] {-1, 2, Integer.MIN_VALUE, Integer.MAX_VALUE}) {
            c.due("P23: what " + what, Checks.OUTSIDE, x.saw(0, 0, what));
            c.due("P23: UNKNOWN ahead of OUTSIDE", Checks.UNKNOWN, x.saw(1, 0, what));
            c.due("P23: UNKNOWN ahead of OUTSIDE, too", Checks.UNKNOWN, x.saw(0, 1, what));
        }
    }

    private static void saw99AtMost() {
        SevenBlows x = c.land("p1;f0 9 80;t0 1 1 18;t0 1 1 19;t0 1 1 20;e0 0 80;");
        for (int t = 0; t < 3; t++) {
            x.attempt(0, t, 0);
        }
        c.due("P7: THINKS 99", 99, x.thinks(0, 0));
        saw("99: all but none and the least alone", x, 6, 0);
        x = c.land("p1;f0 9 99;t0 1 1 20;e0 0 99;");
        x.attempt(0, 0, 0);
        saw("READ 99, with or without", x, 2, 0);
        x = c.land("p1;f0 9 78;t0 1 1 20;e0 0 78;");
        x.attempt(0, 0, 0);
        saw("98 is not cut", x, 1, 1);
        x.belt(0, 79);
        saw("nor is 99 98", x, 0, 0);
    }

    private static void sawBeltOrNot() {
        saw("silent, READ or not", c.land("p1;f1 9 50;"), 2, 0);
        saw("a BELT of 0, READ or not", c.land("p1;f0 9 0;"), 2, 0);
        SevenBlows x = c.land("p1;f0 9 10;t0 1 1 10;t0 1 1 0;");
        x.attempt(0, 0, 0);
        x.attempt(0, 1, 0);
        saw("10 by the BELT or by the TASK, with that of FAME 0 or not", x, 4, 0);
        x.belt(0, 11);
        saw("10 by the TASK, with that of FAME 0 or not", x, 2, 1);
        x.belt(0, 0);
        saw("the BELT reads 0", x, 4, 1);
    }

    private static void sawSure() {
        SevenBlows x = c.land("p1;f0 9 0;" + "t0 1 1 0;".repeat(5) + "t0 1 1 7;");
        for (int t = 5; t >= 0; t--) {
            x.attempt(0, t, 0);
        }
        saw("64 ways but those without the last", x, 64, 32);
        x = c.land("p1;f0 9 50;" + "t0 1 1 1;".repeat(6));
        for (int t = 0; t < 6; t++) {
            x.attempt(0, t, 0);
        }
        saw("all six", x, 1, 63);
        x = c.land("p1;f0 9 50;f0 9 50;t0 1 1 5;t0 1 1 5;");
        x.attempt(1, 0, 0);
        x.attempt(0, 1, 0);
        saw("of his own TASKS alone", x, 1, 2);
    }

    private static void sawByTheLast() {
        SevenBlows x = c.land("p6;f0 9 50;f0 9 40;f0 9 30;f0 9 20;f0 9 60;" + "t0 1 1 0;".repeat(5) + "t0 1 1 7;e5 4 60;e4 4 1;");
        x.attempt(4, 5, 0);
        int[] ways = {1, 1, 1, 1, 0, 1};
        int[] sure = {32, 32, 32, 32, 0, 32};
        for (int p = 0; p < 6; p++) {
            c.due("P23: ways, PERSON " + p + " of the last", ways[p], x.saw(p, 4, 0));
            c.due("P23: SURE, PERSON " + p + " of the last", sure[p], x.saw(p, 4, 1));
            c.due("P23: ways, PERSON " + p + " of one who did nothing", 1, x.saw(p, 3, 0));
            c.due("P23: SURE, PERSON " + p + " of one who did nothing", 0, x.saw(p, 3, 1));
        }
    }

    // ---- promise 24

    private static void hidesAtTheEnds() {
        SevenBlows x = new SevenBlows();
        for (int n = 1; n <= 9; n++) {
            c.due("P24: " + n + " by 0", 1000000000, x.hides(n, 0));
            c.due("P24: " + n + " by 100", 0, x.hides(n, 100));
        }
        c.due("P24: 1 by 1", 990000000, x.hides(1, 1));
        c.due("P24: 1 by 99", 10000000, x.hides(1, 99));
        int[][] outside = {{0, 50}, {-1, 50}, {10, 50}, {1, -1}, {1, 101}, {9, -1}, {9, 101}, {0, 101},
            {Integer.MAX_VALUE, 0}, {Integer.MIN_VALUE, 0}, {1, Integer.MAX_VALUE}, {1, Integer.MIN_VALUE}};
        for (int[] o : outside) {
            c.due("P24: " + o[0] + " by " + o[1], Checks.OUTSIDE, x.hides(o[0], o[1]));
        }
    }

    private static void hidesCuts() {
        SevenBlows x = new SevenBlows();
        for (int q = 0; q <= 100; q++) {
            long odds = 1000000000;
            for (int n = 1; n <= 4; n++) {
                odds = (odds - odds * q / 100) - (odds * q % 100 == 0 ? 0 : 1);
                c.due("P24: " + n + " by " + q, odds, x.hides(n, q));
            }
        }
        c.due("P24: cut at the fifth", 135012510, x.hides(5, 33));
        c.due("P24: cut at each", 27206533, x.hides(9, 33));
        c.due("P24: 10 by 99 of four", 10, x.hides(4, 99));
        c.due("P24: a tenth is cut", 0, x.hides(5, 99));
    }
}
